set_option maxHeartbeats 4000000 in
set_option maxRecDepth 100000 in
theorem w_F_xX7_nextToShare_35 {p : Program} {l : Launch} {e : Env} {s : State} {m : MethodId} {args : Array Value} {below : List Frame} {meth : Method} {c : Code} {D : va_G} {C : Nat → ClassId} {A adK adV : Nat → Nat} (hA : apA A 60) (cx : Cxx D C adK adV (fxA A 60) p s m args meth c cX7_nextToShare 4 RX7 (some .int)) {res : (Int32 × St)} {b4 : Int32 → Int32 → St → Option (Int32 × St)} (hb4 : ∀ (x1 : Int32) (x2 : Int32) (σ : St) (H : Heap) (locs : List Loc) (ls : Array Slot), b4 x1 x2 σ = some res → lv_has ls 4 [(0, .ref (A 41)), (1, .int x1), (2, .int x2)] → va_P D vwCl (wX A C σ) H → va_S (fxA A 60) s.heap H locs → W p l e rm_X7_nextToShare s m args below meth c H locs 0 0 (MQ below (Qcx D (wX A C) (fxA A 60) (some (.int res.1)) res.2) args s 0 0 (fxA A 60)) (F0 m 4 ls [])) : ∀ (x1 : Int32) (x2 : Int32) (y0 : Int32) (σ : St) (H : Heap) (locs : List Loc) (ls : Array Slot), F_xX7_nextToShare_35 b4 x1 x2 y0 σ = some res → lv_has ls 4 [(0, .ref (A 41)), (1, .int x1), (2, .int x2)] → va_P D vwCl (wX A C σ) H → va_S (fxA A 60) s.heap H locs → W p l e rm_X7_nextToShare s m args below meth c H locs 0 0 (MQ below (Qcx D (wX A C) (fxA A 60) (some (.int res.1)) res.2) args s 0 0 (fxA A 60)) (F0 m 35 ls [.int y0]) := by
  obtain ⟨hx, hb, hml, hown, hts, hK, hr, hlk, hZ⟩ := id cx
  intro x1 x2 y0 σ H locs ls hf hl hP hS
  refine lv_istore_n (lv' := [(3, .int y0), (0, .ref (A 41)), (1, .int x1), (2, .int x2)]) hx hb dX7_nextToShare_35 rfl hl (by decide) rfl (fun ls hl => ?_)
  refine lv_iload_n hx hb dX7_nextToShare_36 rfl (lv_at hl 0 rfl) ?_
  refine lv_if_eq (tgt := 62) hx hb dX7_nextToShare_37 (by decide) (fun c1 => ?_) (fun c1 => ?_)
  · have hf := (if_pos c1).symm.trans hf
    refine lv_iinc (v := (x2 + 1)) (lv' := [(2, .int (x2 + 1)), (3, .int y0), (0, .ref (A 41)), (1, .int x1)]) hx hb dX7_nextToShare_62 hl (k := 3) rfl rfl (by decide) rfl (fun ls hl => ?_)
    refine lv_goto (tgt := 4) hx hb dX7_nextToShare_65 (by decide) ?_
    exact hb4 _ _ _ _ _ _ hf (lv_sub hl [2, 3, 0] rfl) hP hS
  · have hf := (if_neg c1).symm.trans hf
    refine lv_iload_n hx hb dX7_nextToShare_40 rfl (lv_at hl 2 rfl) ?_
    refine lv_iconst (v := (-1)) hx hb dX7_nextToShare_41 (by decide) ?_
    refine lv_icmp_eq (tgt := 60) hx hb dX7_nextToShare_42 (by decide) (fun c2 => ?_) (fun c2 => ?_)
    · have hf := (if_pos c2).symm.trans hf
      refine lv_iload_n hx hb dX7_nextToShare_60 rfl (lv_at hl 3 rfl) ?_
      refine lv_istore_n (lv' := [(1, .int x2), (3, .int y0), (0, .ref (A 41)), (2, .int x2)]) hx hb dX7_nextToShare_61 rfl hl (by decide) rfl (fun ls hl => ?_)
      refine lv_iinc (v := (x2 + 1)) (lv' := [(2, .int (x2 + 1)), (1, .int x2), (3, .int y0), (0, .ref (A 41))]) hx hb dX7_nextToShare_62 hl (k := 3) rfl rfl (by decide) rfl (fun ls hl => ?_)
      refine lv_goto (tgt := 4) hx hb dX7_nextToShare_65 (by decide) ?_
      exact hb4 _ _ _ _ _ _ hf (lv_sub hl [3, 1, 0] rfl) hP hS
    · have hf := (if_neg c2).symm.trans hf
      refine lv_aload_n hx hb dX7_nextToShare_45 rfl (lv_at hl 1 rfl) ?_
      refine gX_41_14 hx hb hts hown hK hP (hts _ kw_128) dX7_nextToShare_46 ?_
      refine lv_iload_n hx hb dX7_nextToShare_49 rfl (lv_at hl 3 rfl) ?_
      obtain ⟨z3, hf⟩ := gd_some hf
      refine gX_a48 hx hb hK hP (ib_in z3) (v := (σ.2.1 48 x2.toNatClampNeg)) rfl dX7_nextToShare_50 ?_
      refine lv_aload_n hx hb dX7_nextToShare_51 rfl (lv_at hl 1 rfl) ?_
      refine gX_41_14 hx hb hts hown hK hP (hts _ kw_128) dX7_nextToShare_52 ?_
      refine lv_iload_n hx hb dX7_nextToShare_55 rfl (lv_at hl 2 rfl) ?_
      obtain ⟨z4, hf⟩ := gd_some hf
      refine gX_a48 hx hb hK hP (ib_in z4) (v := (σ.2.1 48 x1.toNatClampNeg)) rfl dX7_nextToShare_56 ?_
      refine lv_icmp_ge (tgt := 62) hx hb dX7_nextToShare_57 (by decide) (fun c5 => ?_) (fun c5 => ?_)
      · have hf := (if_pos c5).symm.trans hf
        refine lv_iinc (v := (x2 + 1)) (lv' := [(2, .int (x2 + 1)), (3, .int y0), (0, .ref (A 41)), (1, .int x1)]) hx hb dX7_nextToShare_62 hl (k := 3) rfl rfl (by decide) rfl (fun ls hl => ?_)
        refine lv_goto (tgt := 4) hx hb dX7_nextToShare_65 (by decide) ?_
        exact hb4 _ _ _ _ _ _ hf (lv_sub hl [2, 3, 0] rfl) hP hS
      · have hf := (if_neg c5).symm.trans hf
        refine lv_iload_n hx hb dX7_nextToShare_60 rfl (lv_at hl 3 rfl) ?_
        refine lv_istore_n (lv' := [(1, .int x2), (3, .int y0), (0, .ref (A 41)), (2, .int x2)]) hx hb dX7_nextToShare_61 rfl hl (by decide) rfl (fun ls hl => ?_)
        refine lv_iinc (v := (x2 + 1)) (lv' := [(2, .int (x2 + 1)), (1, .int x2), (3, .int y0), (0, .ref (A 41))]) hx hb dX7_nextToShare_62 hl (k := 3) rfl rfl (by decide) rfl (fun ls hl => ?_)
        refine lv_goto (tgt := 4) hx hb dX7_nextToShare_65 (by decide) ?_
        exact hb4 _ _ _ _ _ _ hf (lv_sub hl [3, 1, 0] rfl) hP hS
set_option maxHeartbeats 4000000 in
set_option maxRecDepth 100000 in
theorem w_F_xX7_nextToShare_4 {p : Program} {l : Launch} {e : Env} {s : State} {m : MethodId} {args : Array Value} {below : List Frame} {meth : Method} {c : Code} {D : va_G} {C : Nat → ClassId} {A adK adV : Nat → Nat} (hA : apA A 60) (cx : Cxx D C adK adV (fxA A 60) p s m args meth c cX7_nextToShare 4 RX7 (some .int)) {res : (Int32 × St)} : ∀ (n : Nat), ∀ (x1 : Int32) (x2 : Int32) (σ : St) (H : Heap) (locs : List Loc) (ls : Array Slot), F_xX7_nextToShare_4 n x1 x2 σ = some res → lv_has ls 4 [(0, .ref (A 41)), (1, .int x1), (2, .int x2)] → va_P D vwCl (wX A C σ) H → va_S (fxA A 60) s.heap H locs → W p l e rm_X7_nextToShare s m args below meth c H locs 0 0 (MQ below (Qcx D (wX A C) (fxA A 60) (some (.int res.1)) res.2) args s 0 0 (fxA A 60)) (F0 m 4 ls []) := by
  obtain ⟨hx, hb, hml, hown, hts, hK, hr, hlk, hZ⟩ := id cx
  intro n
  induction n with
  | zero =>
    intro x1 x2 σ H locs ls hf hl hP hS
    exact absurd (show (none : Option (Int32 × St)) = some res from hf) (by intro h; cases h)
  | succ n ih =>
    intro x1 x2 σ H locs ls hf hl hP hS
    refine lv_iload_n hx hb dX7_nextToShare_4 rfl (lv_at hl 2 rfl) ?_
    refine lv_bipush (v := 40) hx hb dX7_nextToShare_5 (by decide) ?_
    refine lv_icmp_ge (tgt := 68) hx hb dX7_nextToShare_7 (by decide) (fun c6 => ?_) (fun c6 => ?_)
    · have hf := (if_pos c6).symm.trans hf
      refine lv_iload_n hx hb dX7_nextToShare_68 rfl (lv_at hl 1 rfl) ?_
      exact cx_iret cx hP hS hf dX7_nextToShare_69
    · have hf := (if_neg c6).symm.trans hf
      refine lv_aload_n hx hb dX7_nextToShare_10 rfl (lv_at hl 0 rfl) ?_
      refine gX_41_14 hx hb hts hown hK hP (hts _ kw_128) dX7_nextToShare_11 ?_
      refine lv_iload_n hx hb dX7_nextToShare_14 rfl (lv_at hl 2 rfl) ?_
      obtain ⟨z7, hf⟩ := gd_some hf
      refine gX_a48 hx hb hK hP (ib_in z7) (v := (σ.2.1 48 x2.toNatClampNeg)) rfl dX7_nextToShare_15 ?_
      refine lv_iconst (v := (-1)) hx hb dX7_nextToShare_16 (by decide) ?_
      refine lv_icmp_eq (tgt := 34) hx hb dX7_nextToShare_17 (by decide) (fun c8 => ?_) (fun c8 => ?_)
      · have hf := (if_pos c8).symm.trans hf
        refine lv_iconst (v := 0) hx hb dX7_nextToShare_34 (by decide) ?_
        exact w_F_xX7_nextToShare_35 hA cx ih _ _ _ _ _ _ _ hf (lv_sub hl [0, 1, 2] rfl) hP hS
      · have hf := (if_neg c8).symm.trans hf
        refine lv_aload_n hx hb dX7_nextToShare_20 rfl (lv_at hl 0 rfl) ?_
        refine gX_41_16 hx hb hts hown hK hP (hts _ kw_130) dX7_nextToShare_21 ?_
        refine lv_iload_n hx hb dX7_nextToShare_24 rfl (lv_at hl 2 rfl) ?_
        refine gX_a50 hx hb hK hP (ib_in z7) (v := (σ.2.1 50 x2.toNatClampNeg)) rfl dX7_nextToShare_25 ?_
        refine lv_iconst (v := (-1)) hx hb dX7_nextToShare_26 (by decide) ?_
        refine lv_icmp_ne (tgt := 34) hx hb dX7_nextToShare_27 (by decide) (fun c9 => ?_) (fun c9 => ?_)
        · have hf := (if_neg c9).symm.trans hf
          refine lv_iconst (v := 0) hx hb dX7_nextToShare_34 (by decide) ?_
          exact w_F_xX7_nextToShare_35 hA cx ih _ _ _ _ _ _ _ hf (lv_sub hl [0, 1, 2] rfl) hP hS
        · have hf := (if_pos c9).symm.trans hf
          refine lv_iconst (v := 1) hx hb dX7_nextToShare_30 (by decide) ?_
          refine lv_goto (tgt := 35) hx hb dX7_nextToShare_31 (by decide) ?_
          exact w_F_xX7_nextToShare_35 hA cx ih _ _ _ _ _ _ _ hf (lv_sub hl [0, 1, 2] rfl) hP hS
set_option maxHeartbeats 4000000 in
set_option maxRecDepth 100000 in
theorem ct_xX7_nextToShare (l : Launch) (D : va_G) (C : Nat → ClassId) (A adK adV : Nat → Nat) (hA : apA A 60)  {σ : St} {res : (Int32 × St)} (hf : F_xX7_nextToShare σ = some res) : Met l yX7_nextToShare (Cond.code yX7_nextToShare cX7_nextToShare 4 (some .int) :: wsL_law) rm_X7_nextToShare (Pcx D C (wX A C) adK adV (fxA A 60) [.ref (A 41)] σ) (Qcx D (wX A C) (fxA A 60) (some (.int res.1)) res.2) 0 0 (fxA A 60) := by
  refine Met.ofW (cc := cX7_nextToShare) (maxL := 4) (ret := (some .int)) (by decide) rfl ?_
  intro p e s m args below meth c s₁ B hml hv
  obtain ⟨rfl, hP, hK, hZ⟩ := hv
  have cx : Cxx D C adK adV (fxA A 60) p s m _ meth c cX7_nextToShare 4 RX7 (some .int) := ⟨B.exec, B.bytes, hml, findClass_of_methodNamed B.named, fun w h => atoms_spec (ws := Cond.code yX7_nextToShare cX7_nextToShare 4 (some .int) :: wsL_law) B.pre w (List.mem_cons_of_mem _ h), hK, B.returns, B.notSynchronized, hZ⟩
  obtain ⟨hx, hb, -, hown, hts, -, hr, hlk, -⟩ := id cx
  have hS : va_S (fxA A 60) s.heap s.heap [] := va_S.rf
  have hl := lv_entry ([.ref (A 41)]) (n := 4) (Nat.le_of_ble_eq_true rfl)
  rw [lg_entry_eq]
  generalize (lg_sl ([.ref (A 41)]) ++ List.replicate (4 - (lg_sl ([.ref (A 41)])).length) Slot.unset).toArray = ls at hl ⊢
  have hl : lv_has ls 4 [(0, .ref (A 41))] := hl
  show W p l e rm_X7_nextToShare s m _ below meth c s.heap [] 0 0 _ _
  refine lv_iconst (v := (-1)) hx hb dX7_nextToShare_0 (by decide) ?_
  refine lv_istore_n (lv' := [(1, .int (-1)), (0, .ref (A 41))]) hx hb dX7_nextToShare_1 rfl hl (by decide) rfl (fun ls hl => ?_)
  refine lv_iconst (v := 0) hx hb dX7_nextToShare_2 (by decide) ?_
  refine lv_istore_n (lv' := [(2, .int 0), (1, .int (-1)), (0, .ref (A 41))]) hx hb dX7_nextToShare_3 rfl hl (by decide) rfl (fun ls hl => ?_)
  exact w_F_xX7_nextToShare_4 hA cx FU _ _ _ _ _ _ hf (lv_sub hl [2, 1, 0] rfl) hP hS
set_option maxHeartbeats 4000000 in
set_option maxRecDepth 100000 in
theorem w_F_xJ7_fill_53178v7_5 {p : Program} {l : Launch} {e : Env} {s : State} {m : MethodId} {args : Array Value} {below : List Frame} {meth : Method} {c : Code} {D : va_G} {C : Nat → ClassId} {A adK adV : Nat → Nat} (hA : apA A 60) (cx : Cxx D C adK adV (fxA A 60) p s m args meth c cJ7_fill_53178 4 RJ7 none) {res : St} : ∀ (n : Nat), ∀ (x1 : Int32) (x2 : Int32) (x3 : Int32) (σ : St) (H : Heap) (locs : List Loc) (ls : Array Slot), F_xJ7_fill_53178v7_5 n x1 x2 x3 σ = some res → lv_has ls 4 [(0, .ref (A 51)), (1, .int x1), (2, .int x2), (3, .int x3)] → va_P D vwCl (wX A C σ) H → va_S (fxA A 60) s.heap H locs → W p l e rm_J7_fill_53178 s m args below meth c H locs 0 0 (MQ below (Qcx D (wX A C) (fxA A 60) none res) args s 0 0 (fxA A 60)) (F0 m 5 ls []) := by
  obtain ⟨hx, hb, hml, hown, hts, hK, hr, hlk, hZ⟩ := id cx
  intro n
  induction n with
  | zero =>
    intro x1 x2 x3 σ H locs ls hf hl hP hS
    exact absurd (show (none : Option St) = some res from hf) (by intro h; cases h)
  | succ n ih =>
    intro x1 x2 x3 σ H locs ls hf hl hP hS
    refine lv_iload_n hx hb dJ7_fill_53178_5 rfl (lv_at hl 2 rfl) ?_
    refine lv_iload_n hx hb dJ7_fill_53178_6 rfl (lv_at hl 3 rfl) ?_
    refine lv_icmp_ge (tgt := 20) hx hb dJ7_fill_53178_7 (by decide) (fun c1 => ?_) (fun c1 => ?_)
    · have hf := (if_pos c1).symm.trans hf
      exact cx_vret cx hP hS hf dJ7_fill_53178_20
    · have hf := (if_neg c1).symm.trans hf
      refine lv_aload_n hx hb dJ7_fill_53178_10 rfl (lv_at hl 0 rfl) ?_
      refine lv_iload_n hx hb dJ7_fill_53178_11 rfl (lv_at hl 2 rfl) ?_
      refine lv_iload_n hx hb dJ7_fill_53178_12 rfl (lv_at hl 1 rfl) ?_
      obtain ⟨z2, hf⟩ := gd_some hf
      refine pX_a51 hx hb hK hP hA hS (ib_in z2) dJ7_fill_53178_13 (fun H locs hP hS => ?_)
      refine lv_iinc (v := (x2 + 1)) (lv' := [(2, .int (x2 + 1)), (0, .ref (A 51)), (1, .int x1), (3, .int x3)]) hx hb dJ7_fill_53178_14 hl (k := 2) rfl rfl (by decide) rfl (fun ls hl => ?_)
      refine lv_goto (tgt := 5) hx hb dJ7_fill_53178_17 (by decide) ?_
      have hP : va_P D vwCl (wX A C (sA σ 51 (upd (σ.2.1 51) x2.toNatClampNeg x1))) H := hP
      exact ih _ _ _ _ _ _ _ hf (lv_sub hl [1, 2, 0, 3] rfl) hP hS
set_option maxHeartbeats 4000000 in
set_option maxRecDepth 100000 in
theorem ct_xJ7_fill_53178v7 (l : Launch) (D : va_G) (C : Nat → ClassId) (A adK adV : Nat → Nat) (hA : apA A 60) {x1 : Int32} {σ : St} {res : St} (hf : F_xJ7_fill_53178v7 x1 σ = some res) : Met l yJ7_fill_53178 (Cond.code yJ7_fill_53178 cJ7_fill_53178 4 none :: wsL_law) rm_J7_fill_53178 (Pcx D C (wX A C) adK adV (fxA A 60) [.ref (A 51), .int x1] σ) (Qcx D (wX A C) (fxA A 60) none res) 0 0 (fxA A 60) := by
  refine Met.ofW (cc := cJ7_fill_53178) (maxL := 4) (ret := none) (by decide) rfl ?_
  intro p e s m args below meth c s₁ B hml hv
  obtain ⟨rfl, hP, hK, hZ⟩ := hv
  have cx : Cxx D C adK adV (fxA A 60) p s m _ meth c cJ7_fill_53178 4 RJ7 none := ⟨B.exec, B.bytes, hml, findClass_of_methodNamed B.named, fun w h => atoms_spec (ws := Cond.code yJ7_fill_53178 cJ7_fill_53178 4 none :: wsL_law) B.pre w (List.mem_cons_of_mem _ h), hK, B.returns, B.notSynchronized, hZ⟩
  obtain ⟨hx, hb, -, hown, hts, -, hr, hlk, -⟩ := id cx
  have hS : va_S (fxA A 60) s.heap s.heap [] := va_S.rf
  have hl := lv_entry ([.ref (A 51), .int x1]) (n := 4) (Nat.le_of_ble_eq_true rfl)
  rw [lg_entry_eq]
  generalize (lg_sl ([.ref (A 51), .int x1]) ++ List.replicate (4 - (lg_sl ([.ref (A 51), .int x1])).length) Slot.unset).toArray = ls at hl ⊢
  have hl : lv_has ls 4 [(0, .ref (A 51)), (1, .int x1)] := hl
  show W p l e rm_J7_fill_53178 s m _ below meth c s.heap [] 0 0 _ _
  refine lv_iconst (v := 0) hx hb dJ7_fill_53178_0 (by decide) ?_
  refine lv_istore_n (lv' := [(2, .int 0), (0, .ref (A 51)), (1, .int x1)]) hx hb dJ7_fill_53178_1 rfl hl (by decide) rfl (fun ls hl => ?_)
  refine lv_aload_n hx hb dJ7_fill_53178_2 rfl (lv_at hl 1 rfl) ?_
  refine va_alen hx hb hK hP 51 1 (wX_51 A C _) rfl (v := 40) rfl dJ7_fill_53178_3 ?_
  refine lv_istore_n (lv' := [(3, .int 40), (2, .int 0), (0, .ref (A 51)), (1, .int x1)]) hx hb dJ7_fill_53178_4 rfl hl (by decide) rfl (fun ls hl => ?_)
  exact w_F_xJ7_fill_53178v7_5 hA cx FU _ _ _ _ _ _ _ hf (lv_sub hl [2, 3, 1, 0] rfl) hP hS
set_option maxHeartbeats 4000000 in
set_option maxRecDepth 100000 in
theorem w_F_xX7_leastFreeShare_51 {p : Program} {l : Launch} {e : Env} {s : State} {m : MethodId} {args : Array Value} {below : List Frame} {meth : Method} {c : Code} {D : va_G} {C : Nat → ClassId} {A adK adV : Nat → Nat} (hA : apA A 60) (cx : Cxx D C adK adV (fxA A 60) p s m args meth c cX7_leastFreeShare 4 RX7 (some .int)) {res : (Int32 × St)} {b10 : Int32 → Int32 → St → Option (Int32 × St)} (hb10 : ∀ (x1 : Int32) (x2 : Int32) (σ : St) (H : Heap) (locs : List Loc) (ls : Array Slot), b10 x1 x2 σ = some res → lv_has ls 4 [(0, .ref (A 41)), (1, .int x1), (2, .int x2)] → va_P D vwCl (wX A C σ) H → va_S (fxA A 60) s.heap H locs → W p l e rm_X7_leastFreeShare s m args below meth c H locs 0 0 (MQ below (Qcx D (wX A C) (fxA A 60) (some (.int res.1)) res.2) args s 0 0 (fxA A 60)) (F0 m 10 ls [])) : ∀ (x1 : Int32) (x2 : Int32) (y0 : Int32) (σ : St) (H : Heap) (locs : List Loc) (ls : Array Slot), F_xX7_leastFreeShare_51 b10 x1 x2 y0 σ = some res → lv_has ls 4 [(0, .ref (A 41)), (1, .int x1), (2, .int x2)] → va_P D vwCl (wX A C σ) H → va_S (fxA A 60) s.heap H locs → W p l e rm_X7_leastFreeShare s m args below meth c H locs 0 0 (MQ below (Qcx D (wX A C) (fxA A 60) (some (.int res.1)) res.2) args s 0 0 (fxA A 60)) (F0 m 51 ls [.int y0]) := by
  obtain ⟨hx, hb, hml, hown, hts, hK, hr, hlk, hZ⟩ := id cx
  intro x1 x2 y0 σ H locs ls hf hl hP hS
  refine lv_istore_n (lv' := [(3, .int y0), (0, .ref (A 41)), (1, .int x1), (2, .int x2)]) hx hb dX7_leastFreeShare_51 rfl hl (by decide) rfl (fun ls hl => ?_)
  refine lv_iload_n hx hb dX7_leastFreeShare_52 rfl (lv_at hl 0 rfl) ?_
  refine lv_if_eq (tgt := 88) hx hb dX7_leastFreeShare_53 (by decide) (fun c4 => ?_) (fun c4 => ?_)
  · have hf := (if_pos c4).symm.trans hf
    refine lv_iinc (v := (x2 + 1)) (lv' := [(2, .int (x2 + 1)), (3, .int y0), (0, .ref (A 41)), (1, .int x1)]) hx hb dX7_leastFreeShare_88 hl (k := 3) rfl rfl (by decide) rfl (fun ls hl => ?_)
    refine lv_goto (tgt := 10) hx hb dX7_leastFreeShare_91 (by decide) ?_
    exact hb10 _ _ _ _ _ _ hf (lv_sub hl [2, 3, 0] rfl) hP hS
  · have hf := (if_neg c4).symm.trans hf
    refine lv_aload_n hx hb dX7_leastFreeShare_56 rfl (lv_at hl 1 rfl) ?_
    refine gX_41_16 hx hb hts hown hK hP (hts _ kw_130) dX7_leastFreeShare_57 ?_
    refine lv_iload_n hx hb dX7_leastFreeShare_60 rfl (lv_at hl 3 rfl) ?_
    obtain ⟨z5, hf⟩ := gd_some hf
    refine gX_a50 hx hb hK hP (ib_in z5) (v := (σ.2.1 50 x2.toNatClampNeg)) rfl dX7_leastFreeShare_61 ?_
    refine lv_if_lt (tgt := 88) hx hb dX7_leastFreeShare_62 (by decide) (fun c6 => ?_) (fun c6 => ?_)
    · have hf := (if_pos c6).symm.trans hf
      refine lv_iinc (v := (x2 + 1)) (lv' := [(2, .int (x2 + 1)), (3, .int y0), (0, .ref (A 41)), (1, .int x1)]) hx hb dX7_leastFreeShare_88 hl (k := 3) rfl rfl (by decide) rfl (fun ls hl => ?_)
      refine lv_goto (tgt := 10) hx hb dX7_leastFreeShare_91 (by decide) ?_
      exact hb10 _ _ _ _ _ _ hf (lv_sub hl [2, 3, 0] rfl) hP hS
    · have hf := (if_neg c6).symm.trans hf
      refine lv_aload_n hx hb dX7_leastFreeShare_65 rfl (lv_at hl 1 rfl) ?_
      refine gX_41_16 hx hb hts hown hK hP (hts _ kw_130) dX7_leastFreeShare_66 ?_
      refine lv_iload_n hx hb dX7_leastFreeShare_69 rfl (lv_at hl 3 rfl) ?_
      refine gX_a50 hx hb hK hP (ib_in z5) (v := (σ.2.1 50 x2.toNatClampNeg)) rfl dX7_leastFreeShare_70 ?_
      refine lv_bipush (v := 40) hx hb dX7_leastFreeShare_71 (by decide) ?_
      refine lv_icmp_ge (tgt := 88) hx hb dX7_leastFreeShare_73 (by decide) (fun c7 => ?_) (fun c7 => ?_)
      · have hf := (if_pos c7).symm.trans hf
        refine lv_iinc (v := (x2 + 1)) (lv' := [(2, .int (x2 + 1)), (3, .int y0), (0, .ref (A 41)), (1, .int x1)]) hx hb dX7_leastFreeShare_88 hl (k := 3) rfl rfl (by decide) rfl (fun ls hl => ?_)
        refine lv_goto (tgt := 10) hx hb dX7_leastFreeShare_91 (by decide) ?_
        exact hb10 _ _ _ _ _ _ hf (lv_sub hl [2, 3, 0] rfl) hP hS
      · have hf := (if_neg c7).symm.trans hf
        refine lv_aload_n hx hb dX7_leastFreeShare_76 rfl (lv_at hl 1 rfl) ?_
        refine gX_41_17 hx hb hts hown hK hP (hts _ kw_131) dX7_leastFreeShare_77 ?_
        refine lv_aload_n hx hb dX7_leastFreeShare_80 rfl (lv_at hl 1 rfl) ?_
        refine gX_41_16 hx hb hts hown hK hP (hts _ kw_130) dX7_leastFreeShare_81 ?_
        refine lv_iload_n hx hb dX7_leastFreeShare_84 rfl (lv_at hl 3 rfl) ?_
        refine gX_a50 hx hb hK hP (ib_in z5) (v := (σ.2.1 50 x2.toNatClampNeg)) rfl dX7_leastFreeShare_85 ?_
        refine lv_iconst (v := 1) hx hb dX7_leastFreeShare_86 (by decide) ?_
        obtain ⟨z8, hf⟩ := gd_some hf
        refine pX_a51 hx hb hK hP hA hS (ib_in z8) dX7_leastFreeShare_87 (fun H locs hP hS => ?_)
        refine lv_iinc (v := (x2 + 1)) (lv' := [(2, .int (x2 + 1)), (3, .int y0), (0, .ref (A 41)), (1, .int x1)]) hx hb dX7_leastFreeShare_88 hl (k := 3) rfl rfl (by decide) rfl (fun ls hl => ?_)
        refine lv_goto (tgt := 10) hx hb dX7_leastFreeShare_91 (by decide) ?_
        have hP : va_P D vwCl (wX A C (sA σ 51 (upd (σ.2.1 51) (σ.2.1 50 x2.toNatClampNeg).toNatClampNeg 1))) H := hP
        exact hb10 _ _ _ _ _ _ hf (lv_sub hl [2, 3, 0] rfl) hP hS
set_option maxHeartbeats 4000000 in
set_option maxRecDepth 100000 in
theorem w_F_xX7_leastFreeShare_96 {p : Program} {l : Launch} {e : Env} {s : State} {m : MethodId} {args : Array Value} {below : List Frame} {meth : Method} {c : Code} {D : va_G} {C : Nat → ClassId} {A adK adV : Nat → Nat} (hA : apA A 60) (cx : Cxx D C adK adV (fxA A 60) p s m args meth c cX7_leastFreeShare 4 RX7 (some .int)) {res : (Int32 × St)} : ∀ (n : Nat), ∀ (x2 : Int32) (σ : St) (H : Heap) (locs : List Loc) (ls : Array Slot), F_xX7_leastFreeShare_96 n x2 σ = some res → lv_has ls 4 [(0, .ref (A 41)), (2, .int x2)] → va_P D vwCl (wX A C σ) H → va_S (fxA A 60) s.heap H locs → W p l e rm_X7_leastFreeShare s m args below meth c H locs 0 0 (MQ below (Qcx D (wX A C) (fxA A 60) (some (.int res.1)) res.2) args s 0 0 (fxA A 60)) (F0 m 96 ls []) := by
  obtain ⟨hx, hb, hml, hown, hts, hK, hr, hlk, hZ⟩ := id cx
  intro n
  induction n with
  | zero =>
    intro x2 σ H locs ls hf hl hP hS
    exact absurd (show (none : Option (Int32 × St)) = some res from hf) (by intro h; cases h)
  | succ n ih =>
    intro x2 σ H locs ls hf hl hP hS
    refine lv_iload_n hx hb dX7_leastFreeShare_96 rfl (lv_at hl 1 rfl) ?_
    refine lv_bipush (v := 40) hx hb dX7_leastFreeShare_97 (by decide) ?_
    refine lv_icmp_ge (tgt := 117) hx hb dX7_leastFreeShare_99 (by decide) (fun c1 => ?_) (fun c1 => ?_)
    · have hf := (if_pos c1).symm.trans hf
      refine lv_iload_n hx hb dX7_leastFreeShare_117 rfl (lv_at hl 1 rfl) ?_
      exact cx_iret cx hP hS hf dX7_leastFreeShare_118
    · have hf := (if_neg c1).symm.trans hf
      refine lv_aload_n hx hb dX7_leastFreeShare_102 rfl (lv_at hl 0 rfl) ?_
      refine gX_41_17 hx hb hts hown hK hP (hts _ kw_131) dX7_leastFreeShare_103 ?_
      refine lv_iload_n hx hb dX7_leastFreeShare_106 rfl (lv_at hl 1 rfl) ?_
      obtain ⟨z2, hf⟩ := gd_some hf
      refine gX_a51 hx hb hK hP (ib_in z2) (v := (σ.2.1 51 x2.toNatClampNeg)) rfl dX7_leastFreeShare_107 ?_
      refine lv_if_eq (tgt := 117) hx hb dX7_leastFreeShare_108 (by decide) (fun c3 => ?_) (fun c3 => ?_)
      · have hf := (if_pos c3).symm.trans hf
        refine lv_iload_n hx hb dX7_leastFreeShare_117 rfl (lv_at hl 1 rfl) ?_
        exact cx_iret cx hP hS hf dX7_leastFreeShare_118
      · have hf := (if_neg c3).symm.trans hf
        refine lv_iinc (v := (x2 + 1)) (lv' := [(2, .int (x2 + 1)), (0, .ref (A 41))]) hx hb dX7_leastFreeShare_111 hl (k := 1) rfl rfl (by decide) rfl (fun ls hl => ?_)
        refine lv_goto (tgt := 96) hx hb dX7_leastFreeShare_114 (by decide) ?_
        exact ih _ _ _ _ _ hf (lv_sub hl [1, 0] rfl) hP hS
set_option maxHeartbeats 4000000 in
set_option maxRecDepth 100000 in
theorem w_F_xX7_leastFreeShare_10 {p : Program} {l : Launch} {e : Env} {s : State} {m : MethodId} {args : Array Value} {below : List Frame} {meth : Method} {c : Code} {D : va_G} {C : Nat → ClassId} {A adK adV : Nat → Nat} (hA : apA A 60) (cx : Cxx D C adK adV (fxA A 60) p s m args meth c cX7_leastFreeShare 4 RX7 (some .int)) {res : (Int32 × St)} : ∀ (n : Nat), ∀ (x1 : Int32) (x2 : Int32) (σ : St) (H : Heap) (locs : List Loc) (ls : Array Slot), F_xX7_leastFreeShare_10 n x1 x2 σ = some res → lv_has ls 4 [(0, .ref (A 41)), (1, .int x1), (2, .int x2)] → va_P D vwCl (wX A C σ) H → va_S (fxA A 60) s.heap H locs → W p l e rm_X7_leastFreeShare s m args below meth c H locs 0 0 (MQ below (Qcx D (wX A C) (fxA A 60) (some (.int res.1)) res.2) args s 0 0 (fxA A 60)) (F0 m 10 ls []) := by
  obtain ⟨hx, hb, hml, hown, hts, hK, hr, hlk, hZ⟩ := id cx
  intro n
  induction n with
  | zero =>
    intro x1 x2 σ H locs ls hf hl hP hS
    exact absurd (show (none : Option (Int32 × St)) = some res from hf) (by intro h; cases h)
  | succ n ih =>
    intro x1 x2 σ H locs ls hf hl hP hS
    refine lv_iload_n hx hb dX7_leastFreeShare_10 rfl (lv_at hl 2 rfl) ?_
    refine lv_bipush (v := 40) hx hb dX7_leastFreeShare_11 (by decide) ?_
    refine lv_icmp_ge (tgt := 94) hx hb dX7_leastFreeShare_13 (by decide) (fun c9 => ?_) (fun c9 => ?_)
    · have hf := (if_pos c9).symm.trans hf
      refine lv_iconst (v := 0) hx hb dX7_leastFreeShare_94 (by decide) ?_
      refine lv_istore_n (lv' := [(2, .int 0), (0, .ref (A 41)), (1, .int x1)]) hx hb dX7_leastFreeShare_95 rfl hl (by decide) rfl (fun ls hl => ?_)
      exact w_F_xX7_leastFreeShare_96 hA cx FU _ _ _ _ _ hf (lv_sub hl [1, 0] rfl) hP hS
    · have hf := (if_neg c9).symm.trans hf
      refine lv_aload_n hx hb dX7_leastFreeShare_16 rfl (lv_at hl 0 rfl) ?_
      refine gX_41_14 hx hb hts hown hK hP (hts _ kw_128) dX7_leastFreeShare_17 ?_
      refine lv_iload_n hx hb dX7_leastFreeShare_20 rfl (lv_at hl 2 rfl) ?_
      obtain ⟨z10, hf⟩ := gd_some hf
      refine gX_a48 hx hb hK hP (ib_in z10) (v := (σ.2.1 48 x2.toNatClampNeg)) rfl dX7_leastFreeShare_21 ?_
      refine lv_aload_n hx hb dX7_leastFreeShare_22 rfl (lv_at hl 0 rfl) ?_
      refine gX_41_15 hx hb hts hown hK hP (hts _ kw_129) dX7_leastFreeShare_23 ?_
      refine lv_iload_n hx hb dX7_leastFreeShare_26 rfl (lv_at hl 1 rfl) ?_
      obtain ⟨z11, hf⟩ := gd_some hf
      refine gX_a49 hx hb hK hP (ib_in z11) (v := (σ.2.1 49 x1.toNatClampNeg)) rfl dX7_leastFreeShare_27 ?_
      refine lv_icmp_gt (tgt := 50) hx hb dX7_leastFreeShare_28 (by decide) (fun c12 => ?_) (fun c12 => ?_)
      · have hf := (if_pos c12).symm.trans hf
        refine lv_iconst (v := 0) hx hb dX7_leastFreeShare_50 (by decide) ?_
        exact w_F_xX7_leastFreeShare_51 hA cx ih _ _ _ _ _ _ _ hf (lv_sub hl [0, 1, 2] rfl) hP hS
      · have hf := (if_neg c12).symm.trans hf
        refine lv_aload_n hx hb dX7_leastFreeShare_31 rfl (lv_at hl 0 rfl) ?_
        refine gX_41_14 hx hb hts hown hK hP (hts _ kw_128) dX7_leastFreeShare_32 ?_
        refine lv_iload_n hx hb dX7_leastFreeShare_35 rfl (lv_at hl 1 rfl) ?_
        refine gX_a48 hx hb hK hP (ib_in z11) (v := (σ.2.1 48 x1.toNatClampNeg)) rfl dX7_leastFreeShare_36 ?_
        refine lv_aload_n hx hb dX7_leastFreeShare_37 rfl (lv_at hl 0 rfl) ?_
        refine gX_41_15 hx hb hts hown hK hP (hts _ kw_129) dX7_leastFreeShare_38 ?_
        refine lv_iload_n hx hb dX7_leastFreeShare_41 rfl (lv_at hl 2 rfl) ?_
        refine gX_a49 hx hb hK hP (ib_in z10) (v := (σ.2.1 49 x2.toNatClampNeg)) rfl dX7_leastFreeShare_42 ?_
        refine lv_icmp_gt (tgt := 50) hx hb dX7_leastFreeShare_43 (by decide) (fun c13 => ?_) (fun c13 => ?_)
        · have hf := (if_pos c13).symm.trans hf
          refine lv_iconst (v := 0) hx hb dX7_leastFreeShare_50 (by decide) ?_
          exact w_F_xX7_leastFreeShare_51 hA cx ih _ _ _ _ _ _ _ hf (lv_sub hl [0, 1, 2] rfl) hP hS
        · have hf := (if_neg c13).symm.trans hf
          refine lv_iconst (v := 1) hx hb dX7_leastFreeShare_46 (by decide) ?_
          refine lv_goto (tgt := 51) hx hb dX7_leastFreeShare_47 (by decide) ?_
          exact w_F_xX7_leastFreeShare_51 hA cx ih _ _ _ _ _ _ _ hf (lv_sub hl [0, 1, 2] rfl) hP hS
set_option maxHeartbeats 4000000 in
set_option maxRecDepth 100000 in
theorem ct_xX7_leastFreeShare (l : Launch) (D : va_G) (C : Nat → ClassId) (A adK adV : Nat → Nat) (hA : apA A 60) {x1 : Int32} {σ : St} {res : (Int32 × St)} (hf : F_xX7_leastFreeShare x1 σ = some res) : Met l yX7_leastFreeShare (Cond.code yX7_leastFreeShare cX7_leastFreeShare 4 (some .int) :: wsL_law) rm_X7_leastFreeShare (Pcx D C (wX A C) adK adV (fxA A 60) [.ref (A 41), .int x1] σ) (Qcx D (wX A C) (fxA A 60) (some (.int res.1)) res.2) 0 0 (fxA A 60) := by
  refine Met.ofW (cc := cX7_leastFreeShare) (maxL := 4) (ret := (some .int)) (by decide) rfl ?_
  intro p e s m args below meth c s₁ B hml hv
  obtain ⟨rfl, hP, hK, hZ⟩ := hv
  have cx : Cxx D C adK adV (fxA A 60) p s m _ meth c cX7_leastFreeShare 4 RX7 (some .int) := ⟨B.exec, B.bytes, hml, findClass_of_methodNamed B.named, fun w h => atoms_spec (ws := Cond.code yX7_leastFreeShare cX7_leastFreeShare 4 (some .int) :: wsL_law) B.pre w (List.mem_cons_of_mem _ h), hK, B.returns, B.notSynchronized, hZ⟩
  obtain ⟨hx, hb, -, hown, hts, -, hr, hlk, -⟩ := id cx
  have hS : va_S (fxA A 60) s.heap s.heap [] := va_S.rf
  have hl := lv_entry ([.ref (A 41), .int x1]) (n := 4) (Nat.le_of_ble_eq_true rfl)
  rw [lg_entry_eq]
  generalize (lg_sl ([.ref (A 41), .int x1]) ++ List.replicate (4 - (lg_sl ([.ref (A 41), .int x1])).length) Slot.unset).toArray = ls at hl ⊢
  have hl : lv_has ls 4 [(0, .ref (A 41)), (1, .int x1)] := hl
  show W p l e rm_X7_leastFreeShare s m _ below meth c s.heap [] 0 0 _ _
  refine lv_aload_n hx hb dX7_leastFreeShare_0 rfl (lv_at hl 0 rfl) ?_
  refine gX_41_17 hx hb hts hown hK hP (hts _ kw_131) dX7_leastFreeShare_1 ?_
  refine lv_iconst (v := 0) hx hb dX7_leastFreeShare_4 (by decide) ?_
  obtain ⟨σ_r14, h_r14, hf⟩ := bv_some hf
  refine cx_S (As := [.ref (A 51), .int 0]) (rest := []) cx (ct_xJ7_fill_53178v7 l D C A adK adV hA h_r14) (cw_X7_79 hts ⟨Nat.le_of_ble_eq_true rfl, Nat.le_of_ble_eq_true rfl⟩) hP hS rfl hl.1 rfl (Nat.le_of_ble_eq_true rfl) dX7_leastFreeShare_5 ⟨Nat.zero_le _, Nat.zero_le _⟩ (fun H locs hP hS => ?_)
  refine lv_iconst (v := 0) hx hb dX7_leastFreeShare_8 (by decide) ?_
  refine lv_istore_n (lv' := [(2, .int 0), (0, .ref (A 41)), (1, .int x1)]) hx hb dX7_leastFreeShare_9 rfl hl (by decide) rfl (fun ls hl => ?_)
  exact w_F_xX7_leastFreeShare_10 hA cx FU _ _ _ _ _ _ hf (lv_sub hl [1, 2, 0] rfl) hP hS
set_option maxHeartbeats 4000000 in
set_option maxRecDepth 100000 in
theorem w_F_xJ7_fill_53178v8_5 {p : Program} {l : Launch} {e : Env} {s : State} {m : MethodId} {args : Array Value} {below : List Frame} {meth : Method} {c : Code} {D : va_G} {C : Nat → ClassId} {A adK adV : Nat → Nat} (hA : apA A 60) (cx : Cxx D C adK adV (fxA A 60) p s m args meth c cJ7_fill_53178 4 RJ7 none) {res : St} : ∀ (n : Nat), ∀ (x1 : Int32) (x2 : Int32) (x3 : Int32) (σ : St) (H : Heap) (locs : List Loc) (ls : Array Slot), F_xJ7_fill_53178v8_5 n x1 x2 x3 σ = some res → lv_has ls 4 [(0, .ref (A 50)), (1, .int x1), (2, .int x2), (3, .int x3)] → va_P D vwCl (wX A C σ) H → va_S (fxA A 60) s.heap H locs → W p l e rm_J7_fill_53178 s m args below meth c H locs 0 0 (MQ below (Qcx D (wX A C) (fxA A 60) none res) args s 0 0 (fxA A 60)) (F0 m 5 ls []) := by
  obtain ⟨hx, hb, hml, hown, hts, hK, hr, hlk, hZ⟩ := id cx
  intro n
  induction n with
  | zero =>
    intro x1 x2 x3 σ H locs ls hf hl hP hS
    exact absurd (show (none : Option St) = some res from hf) (by intro h; cases h)
  | succ n ih =>
    intro x1 x2 x3 σ H locs ls hf hl hP hS
    refine lv_iload_n hx hb dJ7_fill_53178_5 rfl (lv_at hl 2 rfl) ?_
    refine lv_iload_n hx hb dJ7_fill_53178_6 rfl (lv_at hl 3 rfl) ?_
    refine lv_icmp_ge (tgt := 20) hx hb dJ7_fill_53178_7 (by decide) (fun c1 => ?_) (fun c1 => ?_)
    · have hf := (if_pos c1).symm.trans hf
      exact cx_vret cx hP hS hf dJ7_fill_53178_20
    · have hf := (if_neg c1).symm.trans hf
      refine lv_aload_n hx hb dJ7_fill_53178_10 rfl (lv_at hl 0 rfl) ?_
      refine lv_iload_n hx hb dJ7_fill_53178_11 rfl (lv_at hl 2 rfl) ?_
      refine lv_iload_n hx hb dJ7_fill_53178_12 rfl (lv_at hl 1 rfl) ?_
      obtain ⟨z2, hf⟩ := gd_some hf
      refine pX_a50 hx hb hK hP hA hS (ib_in z2) dJ7_fill_53178_13 (fun H locs hP hS => ?_)
      refine lv_iinc (v := (x2 + 1)) (lv' := [(2, .int (x2 + 1)), (0, .ref (A 50)), (1, .int x1), (3, .int x3)]) hx hb dJ7_fill_53178_14 hl (k := 2) rfl rfl (by decide) rfl (fun ls hl => ?_)
      refine lv_goto (tgt := 5) hx hb dJ7_fill_53178_17 (by decide) ?_
      have hP : va_P D vwCl (wX A C (sA σ 50 (upd (σ.2.1 50) x2.toNatClampNeg x1))) H := hP
      exact ih _ _ _ _ _ _ _ hf (lv_sub hl [1, 2, 0, 3] rfl) hP hS
set_option maxHeartbeats 4000000 in
set_option maxRecDepth 100000 in
theorem ct_xJ7_fill_53178v8 (l : Launch) (D : va_G) (C : Nat → ClassId) (A adK adV : Nat → Nat) (hA : apA A 60) {x1 : Int32} {σ : St} {res : St} (hf : F_xJ7_fill_53178v8 x1 σ = some res) : Met l yJ7_fill_53178 (Cond.code yJ7_fill_53178 cJ7_fill_53178 4 none :: wsL_law) rm_J7_fill_53178 (Pcx D C (wX A C) adK adV (fxA A 60) [.ref (A 50), .int x1] σ) (Qcx D (wX A C) (fxA A 60) none res) 0 0 (fxA A 60) := by
  refine Met.ofW (cc := cJ7_fill_53178) (maxL := 4) (ret := none) (by decide) rfl ?_
  intro p e s m args below meth c s₁ B hml hv
  obtain ⟨rfl, hP, hK, hZ⟩ := hv
  have cx : Cxx D C adK adV (fxA A 60) p s m _ meth c cJ7_fill_53178 4 RJ7 none := ⟨B.exec, B.bytes, hml, findClass_of_methodNamed B.named, fun w h => atoms_spec (ws := Cond.code yJ7_fill_53178 cJ7_fill_53178 4 none :: wsL_law) B.pre w (List.mem_cons_of_mem _ h), hK, B.returns, B.notSynchronized, hZ⟩
  obtain ⟨hx, hb, -, hown, hts, -, hr, hlk, -⟩ := id cx
  have hS : va_S (fxA A 60) s.heap s.heap [] := va_S.rf
  have hl := lv_entry ([.ref (A 50), .int x1]) (n := 4) (Nat.le_of_ble_eq_true rfl)
  rw [lg_entry_eq]
  generalize (lg_sl ([.ref (A 50), .int x1]) ++ List.replicate (4 - (lg_sl ([.ref (A 50), .int x1])).length) Slot.unset).toArray = ls at hl ⊢
  have hl : lv_has ls 4 [(0, .ref (A 50)), (1, .int x1)] := hl
  show W p l e rm_J7_fill_53178 s m _ below meth c s.heap [] 0 0 _ _
  refine lv_iconst (v := 0) hx hb dJ7_fill_53178_0 (by decide) ?_
  refine lv_istore_n (lv' := [(2, .int 0), (0, .ref (A 50)), (1, .int x1)]) hx hb dJ7_fill_53178_1 rfl hl (by decide) rfl (fun ls hl => ?_)
  refine lv_aload_n hx hb dJ7_fill_53178_2 rfl (lv_at hl 1 rfl) ?_
  refine va_alen hx hb hK hP 50 1 (wX_50 A C _) rfl (v := 40) rfl dJ7_fill_53178_3 ?_
  refine lv_istore_n (lv' := [(3, .int 40), (2, .int 0), (0, .ref (A 50)), (1, .int x1)]) hx hb dJ7_fill_53178_4 rfl hl (by decide) rfl (fun ls hl => ?_)
  exact w_F_xJ7_fill_53178v8_5 hA cx FU _ _ _ _ _ _ _ hf (lv_sub hl [2, 3, 1, 0] rfl) hP hS
set_option maxHeartbeats 4000000 in
set_option maxRecDepth 100000 in
theorem w_F_xX7_shareSpots_15 {p : Program} {l : Launch} {e : Env} {s : State} {m : MethodId} {args : Array Value} {below : List Frame} {meth : Method} {c : Code} {D : va_G} {C : Nat → ClassId} {A adK adV : Nat → Nat} (hA : apA A 60) (cx : Cxx D C adK adV (fxA A 60) p s m args meth c cX7_shareSpots 3 RX7 none) {res : St} : ∀ (n : Nat), ∀ (x1 : Int32) (σ : St) (H : Heap) (locs : List Loc) (ls : Array Slot), F_xX7_shareSpots_15 n x1 σ = some res → lv_has ls 3 [(0, .ref (A 41)), (1, .int x1)] → va_P D vwCl (wX A C σ) H → va_S (fxA A 60) s.heap H locs → W p l e rm_X7_shareSpots s m args below meth c H locs 0 0 (MQ below (Qcx D (wX A C) (fxA A 60) none res) args s 0 0 (fxA A 60)) (F0 m 15 ls []) := by
  obtain ⟨hx, hb, hml, hown, hts, hK, hr, hlk, hZ⟩ := id cx
  intro n
  induction n with
  | zero =>
    intro x1 σ H locs ls hf hl hP hS
    exact absurd (show (none : Option St) = some res from hf) (by intro h; cases h)
  | succ n ih =>
    intro x1 σ H locs ls hf hl hP hS
    refine lv_iload_n hx hb dX7_shareSpots_15 rfl (lv_at hl 1 rfl) ?_
    refine lv_bipush (v := 40) hx hb dX7_shareSpots_16 (by decide) ?_
    refine lv_icmp_ge (tgt := 70) hx hb dX7_shareSpots_18 (by decide) (fun c1 => ?_) (fun c1 => ?_)
    · have hf := (if_pos c1).symm.trans hf
      exact cx_vret cx hP hS hf dX7_shareSpots_70
    · have hf := (if_neg c1).symm.trans hf
      refine lv_aload_n hx hb dX7_shareSpots_21 rfl (lv_at hl 0 rfl) ?_
      obtain ⟨⟨r2, σ_r2⟩, h_r2, hf⟩ := bd_some hf
      refine cx_V (As := []) (rest := []) cx (ct_xX7_nextToShare l D C A adK adV hA h_r2) (cw_X7_124 hts ⟨Nat.le_of_ble_eq_true rfl, Nat.le_of_ble_eq_true rfl⟩) (va_recv hK hP (ci := 7) (q0 := 41) rfl (wX_41 A C _)) hP hS rfl hl.1 rfl (Nat.le_of_ble_eq_true rfl) dX7_shareSpots_22 ⟨Nat.zero_le _, Nat.zero_le _⟩ (fun H locs hP hS => ?_)
      refine lv_istore_n (lv' := [(2, .int r2), (0, .ref (A 41)), (1, .int x1)]) hx hb dX7_shareSpots_25 rfl hl (by decide) rfl (fun ls hl => ?_)
      refine lv_iload_n hx hb dX7_shareSpots_26 rfl (lv_at hl 0 rfl) ?_
      refine lv_iconst (v := (-1)) hx hb dX7_shareSpots_27 (by decide) ?_
      refine lv_icmp_ne (tgt := 34) hx hb dX7_shareSpots_28 (by decide) (fun c3 => ?_) (fun c3 => ?_)
      · have hf := (if_neg c3).symm.trans hf
        refine lv_aload_n hx hb dX7_shareSpots_34 rfl (lv_at hl 1 rfl) ?_
        refine gX_41_16 hx hb hts hown hK hP (hts _ kw_130) dX7_shareSpots_35 ?_
        refine lv_iload_n hx hb dX7_shareSpots_38 rfl (lv_at hl 0 rfl) ?_
        refine lv_aload_n hx hb dX7_shareSpots_39 rfl (lv_at hl 1 rfl) ?_
        refine lv_iload_n hx hb dX7_shareSpots_40 rfl (lv_at hl 0 rfl) ?_
        obtain ⟨⟨r4, σ_r4⟩, h_r4, hf⟩ := bd_some hf
        refine cx_V (As := [.int r2]) (rest := [.int r2, .ref (A 50)]) cx (ct_xX7_leastFreeShare l D C A adK adV hA h_r4) (cw_X7_128 hts ⟨Nat.le_of_ble_eq_true rfl, Nat.le_of_ble_eq_true rfl⟩) (va_recv hK hP (ci := 7) (q0 := 41) rfl (wX_41 A C _)) hP hS rfl hl.1 rfl (Nat.le_of_ble_eq_true rfl) dX7_shareSpots_41 ⟨Nat.zero_le _, Nat.zero_le _⟩ (fun H locs hP hS => ?_)
        obtain ⟨z5, hf⟩ := gd_some hf
        refine pX_a50 hx hb hK hP hA hS (ib_in z5) dX7_shareSpots_44 (fun H locs hP hS => ?_)
        refine lv_aload_n hx hb dX7_shareSpots_45 rfl (lv_at hl 1 rfl) ?_
        refine lv_aload_n hx hb dX7_shareSpots_46 rfl (lv_at hl 1 rfl) ?_
        refine gX_41_7 hx hb hts hown hK hP (v := (σ_r4.1 30)) rfl (hts _ kw_409) dX7_shareSpots_47 ?_
        refine lv_aload_n hx hb dX7_shareSpots_50 rfl (lv_at hl 1 rfl) ?_
        refine gX_41_16 hx hb hts hown hK hP (hts _ kw_130) dX7_shareSpots_51 ?_
        refine lv_iload_n hx hb dX7_shareSpots_54 rfl (lv_at hl 0 rfl) ?_
        refine gX_a50 hx hb hK hP (ib_in z5) (v := ((upd (σ_r4.2.1 50) r2.toNatClampNeg r4) r2.toNatClampNeg)) rfl dX7_shareSpots_55 ?_
        refine lv_iconst (v := 1) hx hb dX7_shareSpots_56 (by decide) ?_
        refine lv_iadd hx hb dX7_shareSpots_57 ?_
        refine va_mmax hx hb (hml.trans hl.1.symm) hown (hts _ kw_724) (hts _ kw_725) (hts _ kw_353) (hts _ kw_726) (Nat.le_of_ble_eq_true rfl) (Nat.le_of_ble_eq_true rfl) (Nat.zero_le _) (Nat.zero_le _) dX7_shareSpots_58 ?_
        refine pX_41_7 hx hb hts hown hK hP hA hS (hts _ kw_409) dX7_shareSpots_61 (fun H locs hP hS => ?_)
        refine lv_iinc (v := (x1 + 1)) (lv' := [(1, .int (x1 + 1)), (2, .int r2), (0, .ref (A 41))]) hx hb dX7_shareSpots_64 hl (k := 2) rfl rfl (by decide) rfl (fun ls hl => ?_)
        refine lv_goto (tgt := 15) hx hb dX7_shareSpots_67 (by decide) ?_
        have hP : va_P D vwCl (wX A C (sA (sI σ_r4 30 (if (σ_r4.1 30) < (((upd (σ_r4.2.1 50) r2.toNatClampNeg r4) r2.toNatClampNeg) + 1) then (((upd (σ_r4.2.1 50) r2.toNatClampNeg r4) r2.toNatClampNeg) + 1) else (σ_r4.1 30))) 50 (upd (σ_r4.2.1 50) r2.toNatClampNeg r4))) H := hP
        exact ih _ _ _ _ _ hf (lv_sub hl [2, 0] rfl) hP hS
      · have hf := (if_pos c3).symm.trans hf
        refine lv_goto (tgt := 70) hx hb dX7_shareSpots_31 (by decide) ?_
        exact cx_vret cx hP hS hf dX7_shareSpots_70
set_option maxHeartbeats 4000000 in
set_option maxRecDepth 100000 in
theorem ct_xX7_shareSpots (l : Launch) (D : va_G) (C : Nat → ClassId) (A adK adV : Nat → Nat) (hA : apA A 60)  {σ : St} {res : St} (hf : F_xX7_shareSpots σ = some res) : Met l yX7_shareSpots (Cond.code yX7_shareSpots cX7_shareSpots 3 none :: wsL_law) rm_X7_shareSpots (Pcx D C (wX A C) adK adV (fxA A 60) [.ref (A 41)] σ) (Qcx D (wX A C) (fxA A 60) none res) 0 0 (fxA A 60) := by
  refine Met.ofW (cc := cX7_shareSpots) (maxL := 3) (ret := none) (by decide) rfl ?_
  intro p e s m args below meth c s₁ B hml hv
  obtain ⟨rfl, hP, hK, hZ⟩ := hv
  have cx : Cxx D C adK adV (fxA A 60) p s m _ meth c cX7_shareSpots 3 RX7 none := ⟨B.exec, B.bytes, hml, findClass_of_methodNamed B.named, fun w h => atoms_spec (ws := Cond.code yX7_shareSpots cX7_shareSpots 3 none :: wsL_law) B.pre w (List.mem_cons_of_mem _ h), hK, B.returns, B.notSynchronized, hZ⟩
  obtain ⟨hx, hb, -, hown, hts, -, hr, hlk, -⟩ := id cx
  have hS : va_S (fxA A 60) s.heap s.heap [] := va_S.rf
  have hl := lv_entry ([.ref (A 41)]) (n := 3) (Nat.le_of_ble_eq_true rfl)
  rw [lg_entry_eq]
  generalize (lg_sl ([.ref (A 41)]) ++ List.replicate (3 - (lg_sl ([.ref (A 41)])).length) Slot.unset).toArray = ls at hl ⊢
  have hl : lv_has ls 3 [(0, .ref (A 41))] := hl
  show W p l e rm_X7_shareSpots s m _ below meth c s.heap [] 0 0 _ _
  refine lv_aload_n hx hb dX7_shareSpots_0 rfl (lv_at hl 0 rfl) ?_
  refine gX_41_16 hx hb hts hown hK hP (hts _ kw_130) dX7_shareSpots_1 ?_
  refine lv_iconst (v := (-1)) hx hb dX7_shareSpots_4 (by decide) ?_
  obtain ⟨σ_r6, h_r6, hf⟩ := bv_some hf
  refine cx_S (As := [.ref (A 50), .int (-1)]) (rest := []) cx (ct_xJ7_fill_53178v8 l D C A adK adV hA h_r6) (cw_X7_79 hts ⟨Nat.le_of_ble_eq_true rfl, Nat.le_of_ble_eq_true rfl⟩) hP hS rfl hl.1 rfl (Nat.le_of_ble_eq_true rfl) dX7_shareSpots_5 ⟨Nat.zero_le _, Nat.zero_le _⟩ (fun H locs hP hS => ?_)
  refine lv_aload_n hx hb dX7_shareSpots_8 rfl (lv_at hl 0 rfl) ?_
  refine lv_iconst (v := 0) hx hb dX7_shareSpots_9 (by decide) ?_
  refine pX_41_7 hx hb hts hown hK hP hA hS (hts _ kw_409) dX7_shareSpots_10 (fun H locs hP hS => ?_)
  refine lv_iconst (v := 0) hx hb dX7_shareSpots_13 (by decide) ?_
  refine lv_istore_n (lv' := [(1, .int 0), (0, .ref (A 41))]) hx hb dX7_shareSpots_14 rfl hl (by decide) rfl (fun ls hl => ?_)
  have hP : va_P D vwCl (wX A C (sI σ_r6 30 0)) H := hP
  exact w_F_xX7_shareSpots_15 hA cx FU _ _ _ _ _ hf (lv_sub hl [1, 0] rfl) hP hS
set_option maxHeartbeats 4000000 in
set_option maxRecDepth 100000 in
theorem w_F_xX7_write_55 {p : Program} {l : Launch} {e : Env} {s : State} {m : MethodId} {args : Array Value} {below : List Frame} {meth : Method} {c : Code} {D : va_G} {C : Nat → ClassId} {A adK adV : Nat → Nat} (hA : apA A 60) (cx : Cxx D C adK adV (fxA A 60) p s m args meth c cX7_write 5 RX7 none) {res : St} : ∀ (n : Nat), ∀ (x4 : Int32) (σ : St) (H : Heap) (locs : List Loc) (ls : Array Slot), F_xX7_write_55 n x4 σ = some res → lv_has ls 5 [(0, .ref (A 41)), (1, .ref (A 37)), (2, .ref (A 10)), (3, .ref (A 25)), (4, .int x4)] → va_P D vwCl (wX A C σ) H → va_S (fxA A 60) s.heap H locs → W p l e rm_X7_write s m args below meth c H locs 0 0 (MQ below (Qcx D (wX A C) (fxA A 60) none res) args s 0 0 (fxA A 60)) (F0 m 55 ls []) := by
  obtain ⟨hx, hb, hml, hown, hts, hK, hr, hlk, hZ⟩ := id cx
  intro n
  induction n with
  | zero =>
    intro x4 σ H locs ls hf hl hP hS
    exact absurd (show (none : Option St) = some res from hf) (by intro h; cases h)
  | succ n ih =>
    intro x4 σ H locs ls hf hl hP hS
    refine lv_iload hx hb dX7_write_55 (lv_at hl 4 rfl) ?_
    refine lv_bipush (v := 40) hx hb dX7_write_57 (by decide) ?_
    refine lv_icmp_ge (tgt := 111) hx hb dX7_write_59 (by decide) (fun c1 => ?_) (fun c1 => ?_)
    · have hf := (if_pos c1).symm.trans hf
      refine lv_aload_n hx hb dX7_write_111 rfl (lv_at hl 0 rfl) ?_
      refine gX_41_9 hx hb hts hown hK hP (hts _ kw_123) dX7_write_112 ?_
      refine lv_iconst (v := 0) hx hb dX7_write_115 (by decide) ?_
      obtain ⟨σ_r2, h_r2, hf⟩ := bv_some hf
      refine cx_S (As := [.ref (A 43), .int 0]) (rest := []) cx (ct_xJ7_fill_53178v2 l D C A adK adV hA h_r2) (cw_X7_79 hts ⟨Nat.le_of_ble_eq_true rfl, Nat.le_of_ble_eq_true rfl⟩) hP hS rfl hl.1 rfl (Nat.le_of_ble_eq_true rfl) dX7_write_116 ⟨Nat.zero_le _, Nat.zero_le _⟩ (fun H locs hP hS => ?_)
      refine lv_aload_n hx hb dX7_write_119 rfl (lv_at hl 0 rfl) ?_
      refine gX_41_10 hx hb hts hown hK hP (hts _ kw_124) dX7_write_120 ?_
      refine lv_iconst (v := 0) hx hb dX7_write_123 (by decide) ?_
      obtain ⟨σ_r3, h_r3, hf⟩ := bv_some hf
      refine cx_S (As := [.ref (A 44), .int 0]) (rest := []) cx (ct_xJ7_fill_53178v3 l D C A adK adV hA h_r3) (cw_X7_79 hts ⟨Nat.le_of_ble_eq_true rfl, Nat.le_of_ble_eq_true rfl⟩) hP hS rfl hl.1 rfl (Nat.le_of_ble_eq_true rfl) dX7_write_124 ⟨Nat.zero_le _, Nat.zero_le _⟩ (fun H locs hP hS => ?_)
      refine lv_aload_n hx hb dX7_write_127 rfl (lv_at hl 0 rfl) ?_
      refine gX_41_11 hx hb hts hown hK hP (hts _ kw_125) dX7_write_128 ?_
      refine lv_iconst (v := 0) hx hb dX7_write_131 (by decide) ?_
      obtain ⟨σ_r4, h_r4, hf⟩ := bv_some hf
      refine cx_S (As := [.ref (A 45), .int 0]) (rest := []) cx (ct_xJ7_fill_53178v4 l D C A adK adV hA h_r4) (cw_X7_79 hts ⟨Nat.le_of_ble_eq_true rfl, Nat.le_of_ble_eq_true rfl⟩) hP hS rfl hl.1 rfl (Nat.le_of_ble_eq_true rfl) dX7_write_132 ⟨Nat.zero_le _, Nat.zero_le _⟩ (fun H locs hP hS => ?_)
      refine lv_aload_n hx hb dX7_write_135 rfl (lv_at hl 0 rfl) ?_
      refine gX_41_14 hx hb hts hown hK hP (hts _ kw_128) dX7_write_136 ?_
      refine lv_iconst (v := (-1)) hx hb dX7_write_139 (by decide) ?_
      obtain ⟨σ_r5, h_r5, hf⟩ := bv_some hf
      refine cx_S (As := [.ref (A 48), .int (-1)]) (rest := []) cx (ct_xJ7_fill_53178v5 l D C A adK adV hA h_r5) (cw_X7_79 hts ⟨Nat.le_of_ble_eq_true rfl, Nat.le_of_ble_eq_true rfl⟩) hP hS rfl hl.1 rfl (Nat.le_of_ble_eq_true rfl) dX7_write_140 ⟨Nat.zero_le _, Nat.zero_le _⟩ (fun H locs hP hS => ?_)
      refine lv_aload_n hx hb dX7_write_143 rfl (lv_at hl 0 rfl) ?_
      refine gX_41_15 hx hb hts hown hK hP (hts _ kw_129) dX7_write_144 ?_
      refine lv_iconst (v := (-1)) hx hb dX7_write_147 (by decide) ?_
      obtain ⟨σ_r6, h_r6, hf⟩ := bv_some hf
      refine cx_S (As := [.ref (A 49), .int (-1)]) (rest := []) cx (ct_xJ7_fill_53178v6 l D C A adK adV hA h_r6) (cw_X7_79 hts ⟨Nat.le_of_ble_eq_true rfl, Nat.le_of_ble_eq_true rfl⟩) hP hS rfl hl.1 rfl (Nat.le_of_ble_eq_true rfl) dX7_write_148 ⟨Nat.zero_le _, Nat.zero_le _⟩ (fun H locs hP hS => ?_)
      refine lv_aload_n hx hb dX7_write_151 rfl (lv_at hl 0 rfl) ?_
      refine lv_aload_n hx hb dX7_write_152 rfl (lv_at hl 1 rfl) ?_
      refine lv_aload_n hx hb dX7_write_153 rfl (lv_at hl 3 rfl) ?_
      obtain ⟨σ_r7, h_r7, hf⟩ := bv_some hf
      refine cx_V (As := [.ref (A 37), .ref (A 25)]) (rest := []) cx (ct_xX7_countSteps l D C A adK adV hA h_r7) (cw_X7_85 hts ⟨Nat.le_of_ble_eq_true rfl, Nat.le_of_ble_eq_true rfl⟩) (va_recv hK hP (ci := 7) (q0 := 41) rfl (wX_41 A C _)) hP hS rfl hl.1 rfl (Nat.le_of_ble_eq_true rfl) dX7_write_154 ⟨Nat.zero_le _, Nat.zero_le _⟩ (fun H locs hP hS => ?_)
      refine lv_aload_n hx hb dX7_write_157 rfl (lv_at hl 0 rfl) ?_
      obtain ⟨σ_r8, h_r8, hf⟩ := bv_some hf
      refine cx_V (As := []) (rest := []) cx (ct_xX7_shareSpots l D C A adK adV hA h_r8) (cw_X7_89 hts ⟨Nat.le_of_ble_eq_true rfl, Nat.le_of_ble_eq_true rfl⟩) (va_recv hK hP (ci := 7) (q0 := 41) rfl (wX_41 A C _)) hP hS rfl hl.1 rfl (Nat.le_of_ble_eq_true rfl) dX7_write_158 ⟨Nat.zero_le _, Nat.zero_le _⟩ (fun H locs hP hS => ?_)
      exact cx_vret cx hP hS hf dX7_write_161
    · have hf := (if_neg c1).symm.trans hf
      refine lv_aload_n hx hb dX7_write_62 rfl (lv_at hl 0 rfl) ?_
      refine gX_41_12 hx hb hts hown hK hP (hts _ kw_126) dX7_write_63 ?_
      refine lv_iload hx hb dX7_write_66 (lv_at hl 4 rfl) ?_
      refine lv_aload_n hx hb dX7_write_68 rfl (lv_at hl 1 rfl) ?_
      refine gX_37_1 hx hb hts hown hK hP (hts _ kw_688) dX7_write_69 ?_
      refine lv_iload hx hb dX7_write_72 (lv_at hl 4 rfl) ?_
      obtain ⟨z9, hf⟩ := gd_some hf
      refine gX_a39 hx hb hK hP (ib_in z9) (v := (σ.2.1 39 x4.toNatClampNeg)) rfl dX7_write_74 ?_
      refine pX_a46 hx hb hK hP hA hS (ib_in z9) dX7_write_75 (fun H locs hP hS => ?_)
      refine lv_aload_n hx hb dX7_write_76 rfl (lv_at hl 0 rfl) ?_
      refine gX_41_13 hx hb hts hown hK hP (hts _ kw_127) dX7_write_77 ?_
      refine lv_iload hx hb dX7_write_80 (lv_at hl 4 rfl) ?_
      refine lv_aload_n hx hb dX7_write_82 rfl (lv_at hl 1 rfl) ?_
      refine gX_37_1 hx hb hts hown hK hP (hts _ kw_688) dX7_write_83 ?_
      refine lv_iload hx hb dX7_write_86 (lv_at hl 4 rfl) ?_
      refine gX_a39 hx hb hK hP (ib_in z9) (v := (σ.2.1 39 x4.toNatClampNeg)) rfl dX7_write_88 ?_
      refine lv_aload_n hx hb dX7_write_89 rfl (lv_at hl 2 rfl) ?_
      refine gX_10_2 hx hb hts hown hK hP (hts _ kw_689) dX7_write_90 ?_
      refine lv_iload hx hb dX7_write_93 (lv_at hl 4 rfl) ?_
      refine gX_a11 hx hb hK hP (ib_in z9) (v := (σ.2.1 11 x4.toNatClampNeg)) rfl dX7_write_95 ?_
      refine lv_icmp_eq (tgt := 103) hx hb dX7_write_96 (by decide) (fun c10 => ?_) (fun c10 => ?_)
      · have hf := (if_pos c10).symm.trans hf
        refine lv_iconst (v := 0) hx hb dX7_write_103 (by decide) ?_
        refine pX_a47 hx hb hK hP hA hS (ib_in z9) dX7_write_104 (fun H locs hP hS => ?_)
        refine lv_iinc (v := (x4 + 1)) (lv' := [(4, .int (x4 + 1)), (0, .ref (A 41)), (1, .ref (A 37)), (2, .ref (A 10)), (3, .ref (A 25))]) hx hb dX7_write_105 hl (k := 4) rfl rfl (by decide) rfl (fun ls hl => ?_)
        refine lv_goto (tgt := 55) hx hb dX7_write_108 (by decide) ?_
        have hP : va_P D vwCl (wX A C (sA (sA σ 46 (upd (σ.2.1 46) x4.toNatClampNeg (σ.2.1 39 x4.toNatClampNeg))) 47 (upd (σ.2.1 47) x4.toNatClampNeg 0))) H := hP
        exact ih _ _ _ _ _ hf (lv_sub hl [1, 2, 3, 4, 0] rfl) hP hS
      · have hf := (if_neg c10).symm.trans hf
        refine lv_iconst (v := 1) hx hb dX7_write_99 (by decide) ?_
        refine lv_goto (tgt := 104) hx hb dX7_write_100 (by decide) ?_
        refine pX_a47 hx hb hK hP hA hS (ib_in z9) dX7_write_104 (fun H locs hP hS => ?_)
        refine lv_iinc (v := (x4 + 1)) (lv' := [(4, .int (x4 + 1)), (0, .ref (A 41)), (1, .ref (A 37)), (2, .ref (A 10)), (3, .ref (A 25))]) hx hb dX7_write_105 hl (k := 4) rfl rfl (by decide) rfl (fun ls hl => ?_)
        refine lv_goto (tgt := 55) hx hb dX7_write_108 (by decide) ?_
        have hP : va_P D vwCl (wX A C (sA (sA σ 46 (upd (σ.2.1 46) x4.toNatClampNeg (σ.2.1 39 x4.toNatClampNeg))) 47 (upd (σ.2.1 47) x4.toNatClampNeg 1))) H := hP
        exact ih _ _ _ _ _ hf (lv_sub hl [1, 2, 3, 4, 0] rfl) hP hS
set_option maxHeartbeats 4000000 in
set_option maxRecDepth 100000 in
theorem ct_xX7_write (l : Launch) (D : va_G) (C : Nat → ClassId) (A adK adV : Nat → Nat) (hA : apA A 60)  {σ : St} {res : St} (hf : F_xX7_write σ = some res) : Met l yX7_write (Cond.code yX7_write cX7_write 5 none :: wsL_law) rm_X7_write (Pcx D C (wX A C) adK adV (fxA A 60) [.ref (A 41), .ref (A 37), .ref (A 10), .ref (A 25)] σ) (Qcx D (wX A C) (fxA A 60) none res) 0 0 (fxA A 60) := by
  refine Met.ofW (cc := cX7_write) (maxL := 5) (ret := none) (by decide) rfl ?_
  intro p e s m args below meth c s₁ B hml hv
  obtain ⟨rfl, hP, hK, hZ⟩ := hv
  have cx : Cxx D C adK adV (fxA A 60) p s m _ meth c cX7_write 5 RX7 none := ⟨B.exec, B.bytes, hml, findClass_of_methodNamed B.named, fun w h => atoms_spec (ws := Cond.code yX7_write cX7_write 5 none :: wsL_law) B.pre w (List.mem_cons_of_mem _ h), hK, B.returns, B.notSynchronized, hZ⟩
  obtain ⟨hx, hb, -, hown, hts, -, hr, hlk, -⟩ := id cx
  have hS : va_S (fxA A 60) s.heap s.heap [] := va_S.rf
  have hl := lv_entry ([.ref (A 41), .ref (A 37), .ref (A 10), .ref (A 25)]) (n := 5) (Nat.le_of_ble_eq_true rfl)
  rw [lg_entry_eq]
  generalize (lg_sl ([.ref (A 41), .ref (A 37), .ref (A 10), .ref (A 25)]) ++ List.replicate (5 - (lg_sl ([.ref (A 41), .ref (A 37), .ref (A 10), .ref (A 25)])).length) Slot.unset).toArray = ls at hl ⊢
  have hl : lv_has ls 5 [(0, .ref (A 41)), (1, .ref (A 37)), (2, .ref (A 10)), (3, .ref (A 25))] := hl
  show W p l e rm_X7_write s m _ below meth c s.heap [] 0 0 _ _
  refine lv_aload_n hx hb dX7_write_0 rfl (lv_at hl 0 rfl) ?_
  refine lv_iconst (v := 1) hx hb dX7_write_1 (by decide) ?_
  refine pX_41_0 hx hb hts hown hK hP hA hS rfl rfl (hts _ kw_408) dX7_write_2 (fun H locs hP hS => ?_)
  refine lv_aload_n hx hb dX7_write_5 rfl (lv_at hl 0 rfl) ?_
  refine lv_aload_n hx hb dX7_write_6 rfl (lv_at hl 1 rfl) ?_
  refine gX_37_4 hx hb hts hown hK hP (v := (σ.1 19)) rfl (hts _ kw_678) dX7_write_7 ?_
  refine pX_41_1 hx hb hts hown hK hP hA hS (hts _ kw_679) dX7_write_10 (fun H locs hP hS => ?_)
  refine lv_aload_n hx hb dX7_write_13 rfl (lv_at hl 0 rfl) ?_
  refine lv_aload_n hx hb dX7_write_14 rfl (lv_at hl 1 rfl) ?_
  refine gX_37_5 hx hb hts hown hK hP (v := (σ.1 20)) rfl (hts _ kw_680) dX7_write_15 ?_
  refine pX_41_2 hx hb hts hown hK hP hA hS (hts _ kw_681) dX7_write_18 (fun H locs hP hS => ?_)
  refine lv_aload_n hx hb dX7_write_21 rfl (lv_at hl 0 rfl) ?_
  refine lv_aload_n hx hb dX7_write_22 rfl (lv_at hl 1 rfl) ?_
  refine gX_37_6 hx hb hts hown hK hP (v := (σ.1 21)) rfl (hts _ kw_682) dX7_write_23 ?_
  refine pX_41_3 hx hb hts hown hK hP hA hS (hts _ kw_683) dX7_write_26 (fun H locs hP hS => ?_)
  refine lv_aload_n hx hb dX7_write_29 rfl (lv_at hl 0 rfl) ?_
  refine lv_aload_n hx hb dX7_write_30 rfl (lv_at hl 1 rfl) ?_
  refine gX_37_7 hx hb hts hown hK hP (v := (σ.1 22)) rfl (hts _ kw_684) dX7_write_31 ?_
  refine pX_41_4 hx hb hts hown hK hP hA hS (hts _ kw_685) dX7_write_34 (fun H locs hP hS => ?_)
  refine lv_aload_n hx hb dX7_write_37 rfl (lv_at hl 1 rfl) ?_
  refine gX_37_2 hx hb hts hown hK hP (hts _ kw_686) dX7_write_38 ?_
  refine lv_iconst (v := 0) hx hb dX7_write_41 (by decide) ?_
  refine lv_aload_n hx hb dX7_write_42 rfl (lv_at hl 0 rfl) ?_
  refine gX_41_8 hx hb hts hown hK hP (hts _ kw_122) dX7_write_43 ?_
  refine lv_iconst (v := 0) hx hb dX7_write_46 (by decide) ?_
  refine lv_bipush (v := 100) hx hb dX7_write_47 (by decide) ?_
  refine va_copyi hx hb (hml.trans hl.1.symm) hown (hts _ kw_687) (hts _ kw_529) (hts _ kw_530) (hts _ kw_531) hK hP (wX_D hA C _) hS 40 42 1 1 (wX_40 A C _) (wX_42 A C _) rfl rfl rfl (by decide) (by decide) (by decide) (by decide) (by decide) (fun _ _ => rfl) (Nat.le_of_ble_eq_true rfl) (by decide) dX7_write_49 (fun H locs hP _ hS => ?_)
  have hP : va_P D vwCl (wX A C (sA (sI (sI (sI (sI (sI σ 23 1) 24 (σ.1 19)) 25 (σ.1 20)) 26 (σ.1 21)) 27 (σ.1 22)) 42 (va_cpy (σ.2.1 40) (σ.2.1 42) 0 0 100))) H := hP
  refine lv_iconst (v := 0) hx hb dX7_write_52 (by decide) ?_
  refine lv_istore (lv' := [(4, .int 0), (0, .ref (A 41)), (1, .ref (A 37)), (2, .ref (A 10)), (3, .ref (A 25))]) hx hb dX7_write_53 hl (by decide) rfl (fun ls hl => ?_)
  exact w_F_xX7_write_55 hA cx FU _ _ _ _ _ hf (lv_sub hl [1, 2, 3, 4, 0] rfl) hP hS
set_option maxHeartbeats 4000000 in
set_option maxRecDepth 100000 in
theorem ct_xX9_hasRoomFor (l : Launch) (D : va_G) (C : Nat → ClassId) (A adK adV : Nat → Nat) (hA : apA A 60) {x1 : Int32} {σ : St} {res : (Int32 × St)} (hf : F_xX9_hasRoomFor x1 σ = some res) : Met l yX9_hasRoomFor (Cond.code yX9_hasRoomFor cX9_hasRoomFor 2 (some .boolean) :: wsL_law) rm_X9_hasRoomFor (Pcx D C (wX A C) adK adV (fxA A 60) [.ref (A 1), .int x1] σ) (Qcx D (wX A C) (fxA A 60) (some (.int res.1)) res.2) 0 0 (fxA A 60) := by
  refine Met.ofW (cc := cX9_hasRoomFor) (maxL := 2) (ret := (some .boolean)) (by decide) rfl ?_
  intro p e s m args below meth c s₁ B hml hv
  obtain ⟨rfl, hP, hK, hZ⟩ := hv
  have cx : Cxx D C adK adV (fxA A 60) p s m _ meth c cX9_hasRoomFor 2 RX9 (some .boolean) := ⟨B.exec, B.bytes, hml, findClass_of_methodNamed B.named, fun w h => atoms_spec (ws := Cond.code yX9_hasRoomFor cX9_hasRoomFor 2 (some .boolean) :: wsL_law) B.pre w (List.mem_cons_of_mem _ h), hK, B.returns, B.notSynchronized, hZ⟩
  obtain ⟨hx, hb, -, hown, hts, -, hr, hlk, -⟩ := id cx
  have hS : va_S (fxA A 60) s.heap s.heap [] := va_S.rf
  have hl := lv_entry ([.ref (A 1), .int x1]) (n := 2) (Nat.le_of_ble_eq_true rfl)
  rw [lg_entry_eq]
  generalize (lg_sl ([.ref (A 1), .int x1]) ++ List.replicate (2 - (lg_sl ([.ref (A 1), .int x1])).length) Slot.unset).toArray = ls at hl ⊢
  have hl : lv_has ls 2 [(0, .ref (A 1)), (1, .int x1)] := hl
  show W p l e rm_X9_hasRoomFor s m _ below meth c s.heap [] 0 0 _ _
  refine lv_aload_n hx hb dX9_hasRoomFor_0 rfl (lv_at hl 0 rfl) ?_
  refine gX_1_1 hx hb hts hown hK hP (v := (σ.1 0)) rfl (hts _ kw_197) dX9_hasRoomFor_1 ?_
  refine lv_iload_n hx hb dX9_hasRoomFor_4 rfl (lv_at hl 1 rfl) ?_
  refine lv_iadd hx hb dX9_hasRoomFor_5 ?_
  refine lv_sipush (v := 1200) hx hb dX9_hasRoomFor_6 (by decide) ?_
  refine lv_icmp_gt (tgt := 16) hx hb dX9_hasRoomFor_9 (by decide) (fun c1 => ?_) (fun c1 => ?_)
  · have hf := (if_pos c1).symm.trans hf
    refine lv_iconst (v := 0) hx hb dX9_hasRoomFor_16 (by decide) ?_
    exact cx_zret cx rfl hP hS hf dX9_hasRoomFor_17
  · have hf := (if_neg c1).symm.trans hf
    refine lv_iconst (v := 1) hx hb dX9_hasRoomFor_12 (by decide) ?_
    refine lv_goto (tgt := 17) hx hb dX9_hasRoomFor_13 (by decide) ?_
    exact cx_zret cx rfl hP hS hf dX9_hasRoomFor_17
set_option maxHeartbeats 4000000 in
set_option maxRecDepth 100000 in
theorem w_F_xX9_append_3 {p : Program} {l : Launch} {e : Env} {s : State} {m : MethodId} {args : Array Value} {below : List Frame} {meth : Method} {c : Code} {D : va_G} {C : Nat → ClassId} {A adK adV : Nat → Nat} (hA : apA A 60) (cx : Cxx D C adK adV (fxA A 60) p s m args meth c cX9_append 3 RX9 none) {res : St} : ∀ (n : Nat), ∀ (x1 : Int32) (x2 : Int32) (σ : St) (H : Heap) (locs : List Loc) (ls : Array Slot), F_xX9_append_3 n x1 x2 σ = some res → lv_has ls 3 [(0, .ref (A 1)), (1, .int x1), (2, .int x2)] → va_P D vwCl (wX A C σ) H → va_S (fxA A 60) s.heap H locs → W p l e rm_X9_append s m args below meth c H locs 0 0 (MQ below (Qcx D (wX A C) (fxA A 60) none res) args s 0 0 (fxA A 60)) (F0 m 3 ls []) := by
  obtain ⟨hx, hb, hml, hown, hts, hK, hr, hlk, hZ⟩ := id cx
  intro n
  induction n with
  | zero =>
    intro x1 x2 σ H locs ls hf hl hP hS
    exact absurd (show (none : Option St) = some res from hf) (by intro h; cases h)
  | succ n ih =>
    intro x1 x2 σ H locs ls hf hl hP hS
    refine lv_iload_n hx hb dX9_append_3 rfl (lv_at hl 2 rfl) ?_
    refine lv_if_lt (tgt := 53) hx hb dX9_append_4 (by decide) (fun c1 => ?_) (fun c1 => ?_)
    · have hf := (if_pos c1).symm.trans hf
      exact cx_vret cx hP hS hf dX9_append_53
    · have hf := (if_neg c1).symm.trans hf
      refine lv_aload_n hx hb dX9_append_7 rfl (lv_at hl 0 rfl) ?_
      refine gX_1_1 hx hb hts hown hK hP (v := (σ.1 0)) rfl (hts _ kw_197) dX9_append_8 ?_
      refine lv_if_lt (tgt := 53) hx hb dX9_append_11 (by decide) (fun c2 => ?_) (fun c2 => ?_)
      · have hf := (if_pos c2).symm.trans hf
        exact cx_vret cx hP hS hf dX9_append_53
      · have hf := (if_neg c2).symm.trans hf
        refine lv_aload_n hx hb dX9_append_14 rfl (lv_at hl 0 rfl) ?_
        refine gX_1_1 hx hb hts hown hK hP (v := (σ.1 0)) rfl (hts _ kw_197) dX9_append_15 ?_
        refine lv_sipush (v := 1200) hx hb dX9_append_18 (by decide) ?_
        refine lv_icmp_ge (tgt := 53) hx hb dX9_append_21 (by decide) (fun c3 => ?_) (fun c3 => ?_)
        · have hf := (if_pos c3).symm.trans hf
          exact cx_vret cx hP hS hf dX9_append_53
        · have hf := (if_neg c3).symm.trans hf
          refine lv_aload_n hx hb dX9_append_24 rfl (lv_at hl 0 rfl) ?_
          refine gX_1_0 hx hb hts hown hK hP (hts _ kw_57) dX9_append_25 ?_
          refine lv_aload_n hx hb dX9_append_28 rfl (lv_at hl 0 rfl) ?_
          refine gX_1_1 hx hb hts hown hK hP (v := (σ.1 0)) rfl (hts _ kw_197) dX9_append_29 ?_
          refine lv_iload_n hx hb dX9_append_32 rfl (lv_at hl 1 rfl) ?_
          refine lv_iload_n hx hb dX9_append_33 rfl (lv_at hl 2 rfl) ?_
          refine lv_iushr hx hb dX9_append_34 rfl ?_
          refine lv_i2b hx hb dX9_append_35 rfl ?_
          obtain ⟨z4, hf⟩ := gd_some hf
          refine pX_a2 hx hb hK hP hA hS (ib_in z4) dX9_append_36 (fun H locs hP hS => ?_)
          refine lv_aload_n hx hb dX9_append_37 rfl (lv_at hl 0 rfl) ?_
          refine lv_dup hx hb dX9_append_38 rfl ?_
          refine gX_1_1 hx hb hts hown hK hP (v := (σ.1 0)) rfl (hts _ kw_197) dX9_append_39 ?_
          refine lv_iconst (v := 1) hx hb dX9_append_42 (by decide) ?_
          refine lv_iadd hx hb dX9_append_43 ?_
          refine pX_1_1 hx hb hts hown hK hP hA hS (hts _ kw_197) dX9_append_44 (fun H locs hP hS => ?_)
          refine lv_iinc (v := (x2 + (-8))) (lv' := [(2, .int (x2 + (-8))), (0, .ref (A 1)), (1, .int x1)]) hx hb dX9_append_47 hl (k := 2) rfl rfl (by decide) rfl (fun ls hl => ?_)
          refine lv_goto (tgt := 3) hx hb dX9_append_50 (by decide) ?_
          have hP : va_P D vwCl (wX A C (sA (sI σ 0 ((σ.1 0) + 1)) 2 (upd (σ.2.1 2) (σ.1 0).toNatClampNeg (vp_nar .byte ((Int32.toInt8 ((Int32.toUInt32 x1 >>> (Int32.toUInt32 x2 &&& Int32.toUInt32 31)).toInt32)).toInt32))))) H := hP
          exact ih _ _ _ _ _ _ hf (lv_sub hl [1, 2, 0] rfl) hP hS
set_option maxHeartbeats 4000000 in
set_option maxRecDepth 100000 in
theorem ct_xX9_append (l : Launch) (D : va_G) (C : Nat → ClassId) (A adK adV : Nat → Nat) (hA : apA A 60) {x1 : Int32} {σ : St} {res : St} (hf : F_xX9_append x1 σ = some res) : Met l yX9_append (Cond.code yX9_append cX9_append 3 none :: wsL_law) rm_X9_append (Pcx D C (wX A C) adK adV (fxA A 60) [.ref (A 1), .int x1] σ) (Qcx D (wX A C) (fxA A 60) none res) 0 0 (fxA A 60) := by
  refine Met.ofW (cc := cX9_append) (maxL := 3) (ret := none) (by decide) rfl ?_
  intro p e s m args below meth c s₁ B hml hv
  obtain ⟨rfl, hP, hK, hZ⟩ := hv
  have cx : Cxx D C adK adV (fxA A 60) p s m _ meth c cX9_append 3 RX9 none := ⟨B.exec, B.bytes, hml, findClass_of_methodNamed B.named, fun w h => atoms_spec (ws := Cond.code yX9_append cX9_append 3 none :: wsL_law) B.pre w (List.mem_cons_of_mem _ h), hK, B.returns, B.notSynchronized, hZ⟩
  obtain ⟨hx, hb, -, hown, hts, -, hr, hlk, -⟩ := id cx
  have hS : va_S (fxA A 60) s.heap s.heap [] := va_S.rf
  have hl := lv_entry ([.ref (A 1), .int x1]) (n := 3) (Nat.le_of_ble_eq_true rfl)
  rw [lg_entry_eq]
  generalize (lg_sl ([.ref (A 1), .int x1]) ++ List.replicate (3 - (lg_sl ([.ref (A 1), .int x1])).length) Slot.unset).toArray = ls at hl ⊢
  have hl : lv_has ls 3 [(0, .ref (A 1)), (1, .int x1)] := hl
  show W p l e rm_X9_append s m _ below meth c s.heap [] 0 0 _ _
  refine lv_bipush (v := 24) hx hb dX9_append_0 (by decide) ?_
  refine lv_istore_n (lv' := [(2, .int 24), (0, .ref (A 1)), (1, .int x1)]) hx hb dX9_append_2 rfl hl (by decide) rfl (fun ls hl => ?_)
  exact w_F_xX9_append_3 hA cx FU _ _ _ _ _ _ hf (lv_sub hl [1, 2, 0] rfl) hP hS
set_option maxHeartbeats 4000000 in
set_option maxRecDepth 100000 in
theorem ct_xX10_feed (l : Launch) (D : va_G) (C : Nat → ClassId) (A adK adV : Nat → Nat) (hA : apA A 60) {x1 : Int32} {x2 : Int32} {x3 : Int32} {x4 : Int32} {x5 : Int32} {σ : St} {res : (Int32 × St)} (hf : F_xX10_feed x1 x2 x3 x4 x5 σ = some res) : Met l yX10_feed (Cond.code yX10_feed cX10_feed 6 (some .int) :: wsL_law) rm_X10_feed (Pcx D C (wX A C) adK adV (fxA A 60) [.ref (A 0), .int x1, .int x2, .int x3, .int x4, .int x5] σ) (Qcx D (wX A C) (fxA A 60) (some (.int res.1)) res.2) 0 0 (fxA A 60) := by
  refine Met.ofW (cc := cX10_feed) (maxL := 6) (ret := (some .int)) (by decide) rfl ?_
  intro p e s m args below meth c s₁ B hml hv
  obtain ⟨rfl, hP, hK, hZ⟩ := hv
  have cx : Cxx D C adK adV (fxA A 60) p s m _ meth c cX10_feed 6 RX10 (some .int) := ⟨B.exec, B.bytes, hml, findClass_of_methodNamed B.named, fun w h => atoms_spec (ws := Cond.code yX10_feed cX10_feed 6 (some .int) :: wsL_law) B.pre w (List.mem_cons_of_mem _ h), hK, B.returns, B.notSynchronized, hZ⟩
  obtain ⟨hx, hb, -, hown, hts, -, hr, hlk, -⟩ := id cx
  have hS : va_S (fxA A 60) s.heap s.heap [] := va_S.rf
  have hl := lv_entry ([.ref (A 0), .int x1, .int x2, .int x3, .int x4, .int x5]) (n := 6) (Nat.le_of_ble_eq_true rfl)
  rw [lg_entry_eq]
  generalize (lg_sl ([.ref (A 0), .int x1, .int x2, .int x3, .int x4, .int x5]) ++ List.replicate (6 - (lg_sl ([.ref (A 0), .int x1, .int x2, .int x3, .int x4, .int x5])).length) Slot.unset).toArray = ls at hl ⊢
  have hl : lv_has ls 6 [(0, .ref (A 0)), (1, .int x1), (2, .int x2), (3, .int x3), (4, .int x4), (5, .int x5)] := hl
  show W p l e rm_X10_feed s m _ below meth c s.heap [] 0 0 _ _
  refine lv_aload_n hx hb dX10_feed_0 rfl (lv_at hl 0 rfl) ?_
  refine gX_0_0 hx hb hts hown hK hP (hts _ kw_16) dX10_feed_1 ?_
  refine lv_bipush (v := 20) hx hb dX10_feed_4 (by decide) ?_
  obtain ⟨⟨r1, σ_r1⟩, h_r1, hf⟩ := bd_some hf
  refine cx_V (As := [.int 20]) (rest := []) cx (ct_xX9_hasRoomFor l D C A adK adV hA h_r1) (cw_X10_85 hts ⟨Nat.le_of_ble_eq_true rfl, Nat.le_of_ble_eq_true rfl⟩) (va_recv hK hP (ci := 9) (q0 := 1) rfl (wX_1 A C _)) hP hS rfl hl.1 rfl (Nat.le_of_ble_eq_true rfl) dX10_feed_6 ⟨Nat.zero_le _, Nat.zero_le _⟩ (fun H locs hP hS => ?_)
  refine lv_if_ne (tgt := 15) hx hb dX10_feed_9 (by decide) (fun c2 => ?_) (fun c2 => ?_)
  · have hf := (if_neg c2).symm.trans hf
    refine lv_aload_n hx hb dX10_feed_15 rfl (lv_at hl 0 rfl) ?_
    refine gX_0_0 hx hb hts hown hK hP (hts _ kw_16) dX10_feed_16 ?_
    refine lv_iload_n hx hb dX10_feed_19 rfl (lv_at hl 1 rfl) ?_
    obtain ⟨σ_r3, h_r3, hf⟩ := bv_some hf
    refine cx_V (As := [.int x1]) (rest := []) cx (ct_xX9_append l D C A adK adV hA h_r3) (cw_X10_89 hts ⟨Nat.le_of_ble_eq_true rfl, Nat.le_of_ble_eq_true rfl⟩) (va_recv hK hP (ci := 9) (q0 := 1) rfl (wX_1 A C _)) hP hS rfl hl.1 rfl (Nat.le_of_ble_eq_true rfl) dX10_feed_20 ⟨Nat.zero_le _, Nat.zero_le _⟩ (fun H locs hP hS => ?_)
    refine lv_aload_n hx hb dX10_feed_23 rfl (lv_at hl 0 rfl) ?_
    refine gX_0_0 hx hb hts hown hK hP (hts _ kw_16) dX10_feed_24 ?_
    refine lv_iload_n hx hb dX10_feed_27 rfl (lv_at hl 2 rfl) ?_
    obtain ⟨σ_r4, h_r4, hf⟩ := bv_some hf
    refine cx_V (As := [.int x2]) (rest := []) cx (ct_xX9_append l D C A adK adV hA h_r4) (cw_X10_89 hts ⟨Nat.le_of_ble_eq_true rfl, Nat.le_of_ble_eq_true rfl⟩) (va_recv hK hP (ci := 9) (q0 := 1) rfl (wX_1 A C _)) hP hS rfl hl.1 rfl (Nat.le_of_ble_eq_true rfl) dX10_feed_28 ⟨Nat.zero_le _, Nat.zero_le _⟩ (fun H locs hP hS => ?_)
    refine lv_aload_n hx hb dX10_feed_31 rfl (lv_at hl 0 rfl) ?_
    refine gX_0_0 hx hb hts hown hK hP (hts _ kw_16) dX10_feed_32 ?_
    refine lv_iload_n hx hb dX10_feed_35 rfl (lv_at hl 3 rfl) ?_
    obtain ⟨σ_r5, h_r5, hf⟩ := bv_some hf
    refine cx_V (As := [.int x3]) (rest := []) cx (ct_xX9_append l D C A adK adV hA h_r5) (cw_X10_89 hts ⟨Nat.le_of_ble_eq_true rfl, Nat.le_of_ble_eq_true rfl⟩) (va_recv hK hP (ci := 9) (q0 := 1) rfl (wX_1 A C _)) hP hS rfl hl.1 rfl (Nat.le_of_ble_eq_true rfl) dX10_feed_36 ⟨Nat.zero_le _, Nat.zero_le _⟩ (fun H locs hP hS => ?_)
    refine lv_aload_n hx hb dX10_feed_39 rfl (lv_at hl 0 rfl) ?_
    refine gX_0_0 hx hb hts hown hK hP (hts _ kw_16) dX10_feed_40 ?_
    refine lv_iload hx hb dX10_feed_43 (lv_at hl 4 rfl) ?_
    obtain ⟨σ_r6, h_r6, hf⟩ := bv_some hf
    refine cx_V (As := [.int x4]) (rest := []) cx (ct_xX9_append l D C A adK adV hA h_r6) (cw_X10_89 hts ⟨Nat.le_of_ble_eq_true rfl, Nat.le_of_ble_eq_true rfl⟩) (va_recv hK hP (ci := 9) (q0 := 1) rfl (wX_1 A C _)) hP hS rfl hl.1 rfl (Nat.le_of_ble_eq_true rfl) dX10_feed_45 ⟨Nat.zero_le _, Nat.zero_le _⟩ (fun H locs hP hS => ?_)
    refine lv_aload_n hx hb dX10_feed_48 rfl (lv_at hl 0 rfl) ?_
    refine gX_0_0 hx hb hts hown hK hP (hts _ kw_16) dX10_feed_49 ?_
    refine lv_iload hx hb dX10_feed_52 (lv_at hl 5 rfl) ?_
    obtain ⟨σ_r7, h_r7, hf⟩ := bv_some hf
    refine cx_V (As := [.int x5]) (rest := []) cx (ct_xX9_append l D C A adK adV hA h_r7) (cw_X10_89 hts ⟨Nat.le_of_ble_eq_true rfl, Nat.le_of_ble_eq_true rfl⟩) (va_recv hK hP (ci := 9) (q0 := 1) rfl (wX_1 A C _)) hP hS rfl hl.1 rfl (Nat.le_of_ble_eq_true rfl) dX10_feed_54 ⟨Nat.zero_le _, Nat.zero_le _⟩ (fun H locs hP hS => ?_)
    refine lv_aload_n hx hb dX10_feed_57 rfl (lv_at hl 0 rfl) ?_
    refine gX_0_0 hx hb hts hown hK hP (hts _ kw_16) dX10_feed_58 ?_
    refine gX_1_1 hx hb hts hown hK hP (v := (σ_r7.1 0)) rfl (hts _ kw_192) dX10_feed_61 ?_
    exact cx_iret cx hP hS hf dX10_feed_64
  · have hf := (if_pos c2).symm.trans hf
    refine lv_bipush (v := (-3)) hx hb dX10_feed_12 (by decide) ?_
    exact cx_iret cx hP hS hf dX10_feed_14
set_option maxHeartbeats 4000000 in
set_option maxRecDepth 100000 in
theorem ct_xX10_end (l : Launch) (D : va_G) (C : Nat → ClassId) (A adK adV : Nat → Nat) (hA : apA A 60) {x1 : Int32} {σ : St} {res : (Int32 × St)} (hf : F_xX10_end x1 σ = some res) : Met l yX10_end (Cond.code yX10_end cX10_end 2 (some .int) :: wsL_law) rm_X10_end (Pcx D C (wX A C) adK adV (fxA A 60) [.ref (A 0), .int x1] σ) (Qcx D (wX A C) (fxA A 60) (some (.int res.1)) res.2) 0 0 (fxA A 60) := by
  refine Met.ofW (cc := cX10_end) (maxL := 2) (ret := (some .int)) (by decide) rfl ?_
  intro p e s m args below meth c s₁ B hml hv
  obtain ⟨rfl, hP, hK, hZ⟩ := hv
  have cx : Cxx D C adK adV (fxA A 60) p s m _ meth c cX10_end 2 RX10 (some .int) := ⟨B.exec, B.bytes, hml, findClass_of_methodNamed B.named, fun w h => atoms_spec (ws := Cond.code yX10_end cX10_end 2 (some .int) :: wsL_law) B.pre w (List.mem_cons_of_mem _ h), hK, B.returns, B.notSynchronized, hZ⟩
  obtain ⟨hx, hb, -, hown, hts, -, hr, hlk, -⟩ := id cx
  have hS : va_S (fxA A 60) s.heap s.heap [] := va_S.rf
  have hl := lv_entry ([.ref (A 0), .int x1]) (n := 2) (Nat.le_of_ble_eq_true rfl)
  rw [lg_entry_eq]
  generalize (lg_sl ([.ref (A 0), .int x1]) ++ List.replicate (2 - (lg_sl ([.ref (A 0), .int x1])).length) Slot.unset).toArray = ls at hl ⊢
  have hl : lv_has ls 2 [(0, .ref (A 0)), (1, .int x1)] := hl
  show W p l e rm_X10_end s m _ below meth c s.heap [] 0 0 _ _
  refine lv_iload_n hx hb dX10_end_0 rfl (lv_at hl 1 rfl) ?_
  refine lv_if_lt (tgt := 15) hx hb dX10_end_1 (by decide) (fun c1 => ?_) (fun c1 => ?_)
  · have hf := (if_pos c1).symm.trans hf
    refine lv_iconst (v := (-1)) hx hb dX10_end_15 (by decide) ?_
    exact cx_iret cx hP hS hf dX10_end_16
  · have hf := (if_neg c1).symm.trans hf
    refine lv_iload_n hx hb dX10_end_4 rfl (lv_at hl 1 rfl) ?_
    refine lv_aload_n hx hb dX10_end_5 rfl (lv_at hl 0 rfl) ?_
    refine gX_0_0 hx hb hts hown hK hP (hts _ kw_16) dX10_end_6 ?_
    refine gX_1_1 hx hb hts hown hK hP (v := (σ.1 0)) rfl (hts _ kw_192) dX10_end_9 ?_
    refine lv_icmp_le (tgt := 17) hx hb dX10_end_12 (by decide) (fun c2 => ?_) (fun c2 => ?_)
    · have hf := (if_pos c2).symm.trans hf
      refine lv_aload_n hx hb dX10_end_17 rfl (lv_at hl 0 rfl) ?_
      refine gX_0_0 hx hb hts hown hK hP (hts _ kw_16) dX10_end_18 ?_
      refine lv_iload_n hx hb dX10_end_21 rfl (lv_at hl 1 rfl) ?_
      refine pX_1_1 hx hb hts hown hK hP hA hS (hts _ kw_192) dX10_end_22 (fun H locs hP hS => ?_)
      refine lv_iload_n hx hb dX10_end_25 rfl (lv_at hl 1 rfl) ?_
      have hP : va_P D vwCl (wX A C (sI σ 0 x1)) H := hP
      exact cx_iret cx hP hS hf dX10_end_26
    · have hf := (if_neg c2).symm.trans hf
      refine lv_iconst (v := (-1)) hx hb dX10_end_15 (by decide) ?_
      exact cx_iret cx hP hS hf dX10_end_16
set_option maxHeartbeats 4000000 in
set_option maxRecDepth 100000 in
theorem ct_xX10_fault (l : Launch) (D : va_G) (C : Nat → ClassId) (A adK adV : Nat → Nat) (hA : apA A 60) {x1 : Int32} {σ : St} {res : (Int32 × St)} (hf : F_xX10_fault x1 σ = some res) : Met l yX10_fault (Cond.code yX10_fault cX10_fault 2 (some .int) :: wsL_law) rm_X10_fault (Pcx D C (wX A C) adK adV (fxA A 60) [.ref (A 0), .int x1] σ) (Qcx D (wX A C) (fxA A 60) (some (.int res.1)) res.2) 0 0 (fxA A 60) := by
  refine Met.ofW (cc := cX10_fault) (maxL := 2) (ret := (some .int)) (by decide) rfl ?_
  intro p e s m args below meth c s₁ B hml hv
  obtain ⟨rfl, hP, hK, hZ⟩ := hv
  have cx : Cxx D C adK adV (fxA A 60) p s m _ meth c cX10_fault 2 RX10 (some .int) := ⟨B.exec, B.bytes, hml, findClass_of_methodNamed B.named, fun w h => atoms_spec (ws := Cond.code yX10_fault cX10_fault 2 (some .int) :: wsL_law) B.pre w (List.mem_cons_of_mem _ h), hK, B.returns, B.notSynchronized, hZ⟩
  obtain ⟨hx, hb, -, hown, hts, -, hr, hlk, -⟩ := id cx
  have hS : va_S (fxA A 60) s.heap s.heap [] := va_S.rf
  have hl := lv_entry ([.ref (A 0), .int x1]) (n := 2) (Nat.le_of_ble_eq_true rfl)
  rw [lg_entry_eq]
  generalize (lg_sl ([.ref (A 0), .int x1]) ++ List.replicate (2 - (lg_sl ([.ref (A 0), .int x1])).length) Slot.unset).toArray = ls at hl ⊢
  have hl : lv_has ls 2 [(0, .ref (A 0)), (1, .int x1)] := hl
  show W p l e rm_X10_fault s m _ below meth c s.heap [] 0 0 _ _
  refine lv_iload_n hx hb dX10_fault_0 rfl (lv_at hl 1 rfl) ?_
  refine lv_if_ne (tgt := 12) hx hb dX10_fault_1 (by decide) (fun c1 => ?_) (fun c1 => ?_)
  · have hf := (if_neg c1).symm.trans hf
    refine lv_iload_n hx hb dX10_fault_12 rfl (lv_at hl 1 rfl) ?_
    refine lv_iconst (v := 1) hx hb dX10_fault_13 (by decide) ?_
    refine lv_icmp_ne (tgt := 27) hx hb dX10_fault_14 (by decide) (fun c2 => ?_) (fun c2 => ?_)
    · have hf := (if_neg c2).symm.trans hf
      refine lv_iconst (v := (-1)) hx hb dX10_fault_27 (by decide) ?_
      exact cx_iret cx hP hS hf dX10_fault_28
    · have hf := (if_pos c2).symm.trans hf
      refine lv_aload_n hx hb dX10_fault_17 rfl (lv_at hl 0 rfl) ?_
      refine gX_0_0 hx hb hts hown hK hP (hts _ kw_16) dX10_fault_18 ?_
      refine gX_1_7 hx hb hts hown hK hP (v := (σ.1 6)) rfl (hts _ kw_555) dX10_fault_21 ?_
      refine lv_goto (tgt := 28) hx hb dX10_fault_24 (by decide) ?_
      exact cx_iret cx hP hS hf dX10_fault_28
  · have hf := (if_pos c1).symm.trans hf
    refine lv_aload_n hx hb dX10_fault_4 rfl (lv_at hl 0 rfl) ?_
    refine gX_0_0 hx hb hts hown hK hP (hts _ kw_16) dX10_fault_5 ?_
    refine gX_1_6 hx hb hts hown hK hP (v := (σ.1 5)) rfl (hts _ kw_554) dX10_fault_8 ?_
    exact cx_iret cx hP hS hf dX10_fault_11
set_option maxHeartbeats 4000000 in
set_option maxRecDepth 100000 in
theorem w_F_xX1_countSpots_4 {p : Program} {l : Launch} {e : Env} {s : State} {m : MethodId} {args : Array Value} {below : List Frame} {meth : Method} {c : Code} {D : va_G} {C : Nat → ClassId} {A adK adV : Nat → Nat} (hA : apA A 60) (cx : Cxx D C adK adV (fxA A 60) p s m args meth c cX1_countSpots 3 RX1 (some .int)) {res : (Int32 × St)} : ∀ (n : Nat), ∀ (x1 : Int32) (x2 : Int32) (σ : St) (H : Heap) (locs : List Loc) (ls : Array Slot), F_xX1_countSpots_4 n x1 x2 σ = some res → lv_has ls 3 [(0, .ref (A 3)), (1, .int x1), (2, .int x2)] → va_P D vwCl (wX A C σ) H → va_S (fxA A 60) s.heap H locs → W p l e rm_X1_countSpots s m args below meth c H locs 0 0 (MQ below (Qcx D (wX A C) (fxA A 60) (some (.int res.1)) res.2) args s 0 0 (fxA A 60)) (F0 m 4 ls []) := by
  obtain ⟨hx, hb, hml, hown, hts, hK, hr, hlk, hZ⟩ := id cx
  intro n
  induction n with
  | zero =>
    intro x1 x2 σ H locs ls hf hl hP hS
    exact absurd (show (none : Option (Int32 × St)) = some res from hf) (by intro h; cases h)
  | succ n ih =>
    intro x1 x2 σ H locs ls hf hl hP hS
    refine lv_iload_n hx hb dX1_countSpots_4 rfl (lv_at hl 2 rfl) ?_
    refine lv_aload_n hx hb dX1_countSpots_5 rfl (lv_at hl 0 rfl) ?_
    refine gX_3_1 hx hb hts hown hK hP (v := (σ.1 8)) rfl (hts _ kw_67) dX1_countSpots_6 ?_
    refine lv_icmp_ge (tgt := 32) hx hb dX1_countSpots_9 (by decide) (fun c1 => ?_) (fun c1 => ?_)
    · have hf := (if_pos c1).symm.trans hf
      refine lv_iload_n hx hb dX1_countSpots_32 rfl (lv_at hl 1 rfl) ?_
      exact cx_iret cx hP hS hf dX1_countSpots_33
    · have hf := (if_neg c1).symm.trans hf
      refine lv_iload_n hx hb dX1_countSpots_12 rfl (lv_at hl 2 rfl) ?_
      refine lv_iconst (v := 4) hx hb dX1_countSpots_13 (by decide) ?_
      refine lv_icmp_ge (tgt := 32) hx hb dX1_countSpots_14 (by decide) (fun c2 => ?_) (fun c2 => ?_)
      · have hf := (if_pos c2).symm.trans hf
        refine lv_iload_n hx hb dX1_countSpots_32 rfl (lv_at hl 1 rfl) ?_
        exact cx_iret cx hP hS hf dX1_countSpots_33
      · have hf := (if_neg c2).symm.trans hf
        refine lv_iload_n hx hb dX1_countSpots_17 rfl (lv_at hl 1 rfl) ?_
        refine lv_aload_n hx hb dX1_countSpots_18 rfl (lv_at hl 0 rfl) ?_
        refine gX_3_3 hx hb hts hown hK hP (hts _ kw_65) dX1_countSpots_19 ?_
        refine lv_iload_n hx hb dX1_countSpots_22 rfl (lv_at hl 2 rfl) ?_
        obtain ⟨z3, hf⟩ := gd_some hf
        refine gX_a5 hx hb hK hP (ib_in z3) (v := (σ.2.1 5 x2.toNatClampNeg)) rfl dX1_countSpots_23 ?_
        refine lv_iadd hx hb dX1_countSpots_24 ?_
        refine lv_istore_n (lv' := [(1, .int (x1 + (σ.2.1 5 x2.toNatClampNeg))), (0, .ref (A 3)), (2, .int x2)]) hx hb dX1_countSpots_25 rfl hl (by decide) rfl (fun ls hl => ?_)
        refine lv_iinc (v := (x2 + 1)) (lv' := [(2, .int (x2 + 1)), (1, .int (x1 + (σ.2.1 5 x2.toNatClampNeg))), (0, .ref (A 3))]) hx hb dX1_countSpots_26 hl (k := 2) rfl rfl (by decide) rfl (fun ls hl => ?_)
        refine lv_goto (tgt := 4) hx hb dX1_countSpots_29 (by decide) ?_
        exact ih _ _ _ _ _ _ hf (lv_sub hl [2, 1, 0] rfl) hP hS
set_option maxHeartbeats 4000000 in
set_option maxRecDepth 100000 in
theorem ct_xX1_countSpots (l : Launch) (D : va_G) (C : Nat → ClassId) (A adK adV : Nat → Nat) (hA : apA A 60)  {σ : St} {res : (Int32 × St)} (hf : F_xX1_countSpots σ = some res) : Met l yX1_countSpots (Cond.code yX1_countSpots cX1_countSpots 3 (some .int) :: wsL_law) rm_X1_countSpots (Pcx D C (wX A C) adK adV (fxA A 60) [.ref (A 3)] σ) (Qcx D (wX A C) (fxA A 60) (some (.int res.1)) res.2) 0 0 (fxA A 60) := by
  refine Met.ofW (cc := cX1_countSpots) (maxL := 3) (ret := (some .int)) (by decide) rfl ?_
  intro p e s m args below meth c s₁ B hml hv
  obtain ⟨rfl, hP, hK, hZ⟩ := hv
  have cx : Cxx D C adK adV (fxA A 60) p s m _ meth c cX1_countSpots 3 RX1 (some .int) := ⟨B.exec, B.bytes, hml, findClass_of_methodNamed B.named, fun w h => atoms_spec (ws := Cond.code yX1_countSpots cX1_countSpots 3 (some .int) :: wsL_law) B.pre w (List.mem_cons_of_mem _ h), hK, B.returns, B.notSynchronized, hZ⟩
  obtain ⟨hx, hb, -, hown, hts, -, hr, hlk, -⟩ := id cx
  have hS : va_S (fxA A 60) s.heap s.heap [] := va_S.rf
  have hl := lv_entry ([.ref (A 3)]) (n := 3) (Nat.le_of_ble_eq_true rfl)
  rw [lg_entry_eq]
  generalize (lg_sl ([.ref (A 3)]) ++ List.replicate (3 - (lg_sl ([.ref (A 3)])).length) Slot.unset).toArray = ls at hl ⊢
  have hl : lv_has ls 3 [(0, .ref (A 3))] := hl
  show W p l e rm_X1_countSpots s m _ below meth c s.heap [] 0 0 _ _
  refine lv_iconst (v := 0) hx hb dX1_countSpots_0 (by decide) ?_
  refine lv_istore_n (lv' := [(1, .int 0), (0, .ref (A 3))]) hx hb dX1_countSpots_1 rfl hl (by decide) rfl (fun ls hl => ?_)
  refine lv_iconst (v := 0) hx hb dX1_countSpots_2 (by decide) ?_
  refine lv_istore_n (lv' := [(2, .int 0), (1, .int 0), (0, .ref (A 3))]) hx hb dX1_countSpots_3 rfl hl (by decide) rfl (fun ls hl => ?_)
  exact w_F_xX1_countSpots_4 hA cx FU _ _ _ _ _ _ hf (lv_sub hl [2, 1, 0] rfl) hP hS
set_option maxHeartbeats 4000000 in
set_option maxRecDepth 100000 in
theorem ct_xX10_told (l : Launch) (D : va_G) (C : Nat → ClassId) (A adK adV : Nat → Nat) (hA : apA A 60) {x1 : Int32} {σ : St} {res : (Int32 × St)} (hf : F_xX10_told x1 σ = some res) : Met l yX10_told (Cond.code yX10_told cX10_told 2 (some .int) :: wsL_law) rm_X10_told (Pcx D C (wX A C) adK adV (fxA A 60) [.ref (A 0), .int x1] σ) (Qcx D (wX A C) (fxA A 60) (some (.int res.1)) res.2) 0 0 (fxA A 60) := by
  refine Met.ofW (cc := cX10_told) (maxL := 2) (ret := (some .int)) (by decide) rfl ?_
  intro p e s m args below meth c s₁ B hml hv
  obtain ⟨rfl, hP, hK, hZ⟩ := hv
  have cx : Cxx D C adK adV (fxA A 60) p s m _ meth c cX10_told 2 RX10 (some .int) := ⟨B.exec, B.bytes, hml, findClass_of_methodNamed B.named, fun w h => atoms_spec (ws := Cond.code yX10_told cX10_told 2 (some .int) :: wsL_law) B.pre w (List.mem_cons_of_mem _ h), hK, B.returns, B.notSynchronized, hZ⟩
  obtain ⟨hx, hb, -, hown, hts, -, hr, hlk, -⟩ := id cx
  have hS : va_S (fxA A 60) s.heap s.heap [] := va_S.rf
  have hl := lv_entry ([.ref (A 0), .int x1]) (n := 2) (Nat.le_of_ble_eq_true rfl)
  rw [lg_entry_eq]
  generalize (lg_sl ([.ref (A 0), .int x1]) ++ List.replicate (2 - (lg_sl ([.ref (A 0), .int x1])).length) Slot.unset).toArray = ls at hl ⊢
  have hl : lv_has ls 2 [(0, .ref (A 0)), (1, .int x1)] := hl
  show W p l e rm_X10_told s m _ below meth c s.heap [] 0 0 _ _
  refine lv_iload_n hx hb dX10_told_0 rfl (lv_at hl 1 rfl) ?_
  by_cases c1 : x1 = 0
  · have hf := (if_pos c1).symm.trans hf
    refine lv_tableIn (tgt := 44) hx hb dX10_told_1 (by rw [c1]; decide) (by rw [c1]; decide) (by rw [c1]; rfl) (by decide) ?_
    refine lv_aload_n hx hb dX10_told_44 rfl (lv_at hl 0 rfl) ?_
    refine gX_0_1 hx hb hts hown hK hP (hts _ kw_20) dX10_told_45 ?_
    refine gX_3_0 hx hb hts hown hK hP (v := (σ.1 7)) rfl (hts _ kw_564) dX10_told_48 ?_
    exact cx_iret cx hP hS hf dX10_told_51
  have hf := (if_neg c1).symm.trans hf
  by_cases c2 : x1 = 1
  · have hf := (if_pos c2).symm.trans hf
    refine lv_tableIn (tgt := 52) hx hb dX10_told_1 (by rw [c2]; decide) (by rw [c2]; decide) (by rw [c2]; rfl) (by decide) ?_
    refine lv_aload_n hx hb dX10_told_52 rfl (lv_at hl 0 rfl) ?_
    refine gX_0_1 hx hb hts hown hK hP (hts _ kw_20) dX10_told_53 ?_
    refine gX_3_1 hx hb hts hown hK hP (v := (σ.1 8)) rfl (hts _ kw_565) dX10_told_56 ?_
    exact cx_iret cx hP hS hf dX10_told_59
  have hf := (if_neg c2).symm.trans hf
  by_cases c3 : x1 = 2
  · have hf := (if_pos c3).symm.trans hf
    refine lv_tableIn (tgt := 60) hx hb dX10_told_1 (by rw [c3]; decide) (by rw [c3]; decide) (by rw [c3]; rfl) (by decide) ?_
    refine lv_aload_n hx hb dX10_told_60 rfl (lv_at hl 0 rfl) ?_
    refine gX_0_1 hx hb hts hown hK hP (hts _ kw_20) dX10_told_61 ?_
    obtain ⟨⟨r4, σ_r4⟩, h_r4, hf⟩ := bd_some hf
    refine cx_V (As := []) (rest := []) cx (ct_xX1_countSpots l D C A adK adV hA h_r4) (cw_X10_107 hts ⟨Nat.le_of_ble_eq_true rfl, Nat.le_of_ble_eq_true rfl⟩) (va_recv hK hP (ci := 1) (q0 := 3) rfl (wX_3 A C _)) hP hS rfl hl.1 rfl (Nat.le_of_ble_eq_true rfl) dX10_told_64 ⟨Nat.zero_le _, Nat.zero_le _⟩ (fun H locs hP hS => ?_)
    exact cx_iret cx hP hS hf dX10_told_67
  have hf := (if_neg c3).symm.trans hf
  by_cases c5 : x1 = 3
  · have hf := (if_pos c5).symm.trans hf
    refine lv_tableIn (tgt := 68) hx hb dX10_told_1 (by rw [c5]; decide) (by rw [c5]; decide) (by rw [c5]; rfl) (by decide) ?_
    refine lv_aload_n hx hb dX10_told_68 rfl (lv_at hl 0 rfl) ?_
    refine gX_0_3 hx hb hts hown hK hP (hts _ kw_28) dX10_told_69 ?_
    refine gX_10_0 hx hb hts hown hK hP (v := (σ.1 11)) rfl (hts _ kw_220) dX10_told_72 ?_
    exact cx_iret cx hP hS hf dX10_told_75
  have hf := (if_neg c5).symm.trans hf
  by_cases c6 : x1 = 4
  · have hf := (if_pos c6).symm.trans hf
    refine lv_tableIn (tgt := 76) hx hb dX10_told_1 (by rw [c6]; decide) (by rw [c6]; decide) (by rw [c6]; rfl) (by decide) ?_
    refine lv_aload_n hx hb dX10_told_76 rfl (lv_at hl 0 rfl) ?_
    refine gX_0_3 hx hb hts hown hK hP (hts _ kw_28) dX10_told_77 ?_
    refine gX_10_1 hx hb hts hown hK hP (v := (σ.1 12)) rfl (hts _ kw_566) dX10_told_80 ?_
    exact cx_iret cx hP hS hf dX10_told_83
  have hf := (if_neg c6).symm.trans hf
  by_cases c7 : x1 = 5
  · have hf := (if_pos c7).symm.trans hf
    refine lv_tableIn (tgt := 84) hx hb dX10_told_1 (by rw [c7]; decide) (by rw [c7]; decide) (by rw [c7]; rfl) (by decide) ?_
    refine lv_aload_n hx hb dX10_told_84 rfl (lv_at hl 0 rfl) ?_
    refine gX_0_9 hx hb hts hown hK hP (hts _ kw_52) dX10_told_85 ?_
    refine gX_56_0 hx hb hts hown hK hP (v := (σ.1 32)) rfl (hts _ kw_567) dX10_told_88 ?_
    exact cx_iret cx hP hS hf dX10_told_91
  have hf := (if_neg c7).symm.trans hf
  by_cases c8 : x1 = 6
  · have hf := (if_pos c8).symm.trans hf
    refine lv_tableIn (tgt := 92) hx hb dX10_told_1 (by rw [c8]; decide) (by rw [c8]; decide) (by rw [c8]; rfl) (by decide) ?_
    refine lv_aload_n hx hb dX10_told_92 rfl (lv_at hl 0 rfl) ?_
    refine gX_0_0 hx hb hts hown hK hP (hts _ kw_16) dX10_told_93 ?_
    refine gX_1_1 hx hb hts hown hK hP (v := (σ.1 0)) rfl (hts _ kw_192) dX10_told_96 ?_
    exact cx_iret cx hP hS hf dX10_told_99
  have hf := (if_neg c8).symm.trans hf
  refine lv_tableOut (tgt := 100) hx hb dX10_told_1 (sw7_0 c1 c2 c3 c5 c6 c7 c8) (by decide) ?_
  refine lv_iload_n hx hb dX10_told_100 rfl (lv_at hl 1 rfl) ?_
  refine lv_bipush (v := 10) hx hb dX10_told_101 (by decide) ?_
  refine lv_icmp_lt (tgt := 120) hx hb dX10_told_103 (by decide) (fun c9 => ?_) (fun c9 => ?_)
  · have hf := (if_pos c9).symm.trans hf
    refine lv_iconst (v := (-1)) hx hb dX10_told_120 (by decide) ?_
    refine lv_goto (tgt := 136) hx hb dX10_told_121 (by decide) ?_
    exact cx_iret cx hP hS hf dX10_told_136
  · have hf := (if_neg c9).symm.trans hf
    refine lv_iload_n hx hb dX10_told_106 rfl (lv_at hl 1 rfl) ?_
    refine lv_bipush (v := 10) hx hb dX10_told_107 (by decide) ?_
    refine lv_aload_n hx hb dX10_told_109 rfl (lv_at hl 0 rfl) ?_
    refine gX_0_1 hx hb hts hown hK hP (hts _ kw_20) dX10_told_110 ?_
    refine gX_3_1 hx hb hts hown hK hP (v := (σ.1 8)) rfl (hts _ kw_565) dX10_told_113 ?_
    refine lv_iadd hx hb dX10_told_116 ?_
    refine lv_icmp_lt (tgt := 124) hx hb dX10_told_117 (by decide) (fun c10 => ?_) (fun c10 => ?_)
    · have hf := (if_pos c10).symm.trans hf
      refine lv_aload_n hx hb dX10_told_124 rfl (lv_at hl 0 rfl) ?_
      refine gX_0_1 hx hb hts hown hK hP (hts _ kw_20) dX10_told_125 ?_
      refine gX_3_2 hx hb hts hown hK hP (hts _ kw_568) dX10_told_128 ?_
      refine lv_iload_n hx hb dX10_told_131 rfl (lv_at hl 1 rfl) ?_
      refine lv_bipush (v := 10) hx hb dX10_told_132 (by decide) ?_
      refine lv_isub hx hb dX10_told_134 ?_
      obtain ⟨z11, hf⟩ := gd_some hf
      refine gX_a4 hx hb hK hP (ib_in z11) (v := (σ.2.1 4 (x1 - 10).toNatClampNeg)) rfl dX10_told_135 ?_
      exact cx_iret cx hP hS hf dX10_told_136
    · have hf := (if_neg c10).symm.trans hf
      refine lv_iconst (v := (-1)) hx hb dX10_told_120 (by decide) ?_
      refine lv_goto (tgt := 136) hx hb dX10_told_121 (by decide) ?_
      exact cx_iret cx hP hS hf dX10_told_136
set_option maxHeartbeats 4000000 in
set_option maxRecDepth 100000 in
theorem ct_xX10_value (l : Launch) (D : va_G) (C : Nat → ClassId) (A adK adV : Nat → Nat) (hA : apA A 60) {x1 : Int32} {σ : St} {res : (Int32 × St)} (hf : F_xX10_value x1 σ = some res) : Met l yX10_value (Cond.code yX10_value cX10_value 2 (some .int) :: wsL_law) rm_X10_value (Pcx D C (wX A C) adK adV (fxA A 60) [.ref (A 0), .int x1] σ) (Qcx D (wX A C) (fxA A 60) (some (.int res.1)) res.2) 0 0 (fxA A 60) := by
  refine Met.ofW (cc := cX10_value) (maxL := 2) (ret := (some .int)) (by decide) rfl ?_
  intro p e s m args below meth c s₁ B hml hv
  obtain ⟨rfl, hP, hK, hZ⟩ := hv
  have cx : Cxx D C adK adV (fxA A 60) p s m _ meth c cX10_value 2 RX10 (some .int) := ⟨B.exec, B.bytes, hml, findClass_of_methodNamed B.named, fun w h => atoms_spec (ws := Cond.code yX10_value cX10_value 2 (some .int) :: wsL_law) B.pre w (List.mem_cons_of_mem _ h), hK, B.returns, B.notSynchronized, hZ⟩
  obtain ⟨hx, hb, -, hown, hts, -, hr, hlk, -⟩ := id cx
  have hS : va_S (fxA A 60) s.heap s.heap [] := va_S.rf
  have hl := lv_entry ([.ref (A 0), .int x1]) (n := 2) (Nat.le_of_ble_eq_true rfl)
  rw [lg_entry_eq]
  generalize (lg_sl ([.ref (A 0), .int x1]) ++ List.replicate (2 - (lg_sl ([.ref (A 0), .int x1])).length) Slot.unset).toArray = ls at hl ⊢
  have hl : lv_has ls 2 [(0, .ref (A 0)), (1, .int x1)] := hl
  show W p l e rm_X10_value s m _ below meth c s.heap [] 0 0 _ _
  refine lv_aload_n hx hb dX10_value_0 rfl (lv_at hl 0 rfl) ?_
  refine gX_0_3 hx hb hts hown hK hP (hts _ kw_28) dX10_value_1 ?_
  refine lv_iload_n hx hb dX10_value_4 rfl (lv_at hl 1 rfl) ?_
  obtain ⟨⟨r1, σ_r1⟩, h_r1, hf⟩ := bd_some hf
  refine cx_V (As := [.int x1]) (rest := []) cx (ct_xX5_has l D C A adK adV hA h_r1) (cw_X10_145 hts ⟨Nat.le_of_ble_eq_true rfl, Nat.le_of_ble_eq_true rfl⟩) (va_recv hK hP (ci := 5) (q0 := 10) rfl (wX_10 A C _)) hP hS rfl hl.1 rfl (Nat.le_of_ble_eq_true rfl) dX10_value_5 ⟨Nat.zero_le _, Nat.zero_le _⟩ (fun H locs hP hS => ?_)
  refine lv_if_eq (tgt := 23) hx hb dX10_value_8 (by decide) (fun c2 => ?_) (fun c2 => ?_)
  · have hf := (if_pos c2).symm.trans hf
    refine lv_ldc (v := (-2147483647)) hx hb hown (hts _ kw_579) dX10_value_23 ?_
    exact cx_iret cx hP hS hf dX10_value_25
  · have hf := (if_neg c2).symm.trans hf
    refine lv_aload_n hx hb dX10_value_11 rfl (lv_at hl 0 rfl) ?_
    refine gX_0_3 hx hb hts hown hK hP (hts _ kw_28) dX10_value_12 ?_
    refine gX_10_2 hx hb hts hown hK hP (hts _ kw_578) dX10_value_15 ?_
    refine lv_iload_n hx hb dX10_value_18 rfl (lv_at hl 1 rfl) ?_
    obtain ⟨z3, hf⟩ := gd_some hf
    refine gX_a11 hx hb hK hP (ib_in z3) (v := (σ_r1.2.1 11 x1.toNatClampNeg)) rfl dX10_value_19 ?_
    refine lv_goto (tgt := 25) hx hb dX10_value_20 (by decide) ?_
    exact cx_iret cx hP hS hf dX10_value_25
set_option maxHeartbeats 4000000 in
set_option maxRecDepth 100000 in
theorem ct_xX10_set (l : Launch) (D : va_G) (C : Nat → ClassId) (A adK adV : Nat → Nat) (hA : apA A 60) {x1 : Int32} {x2 : Int32} {σ : St} {res : (Int32 × St)} (hf : F_xX10_set x1 x2 σ = some res) : Met l yX10_set (Cond.code yX10_set cX10_set 3 (some .int) :: wsL_law) rm_X10_set (Pcx D C (wX A C) adK adV (fxA A 60) [.ref (A 0), .int x1, .int x2] σ) (Qcx D (wX A C) (fxA A 60) (some (.int res.1)) res.2) 0 0 (fxA A 60) := by
  refine Met.ofW (cc := cX10_set) (maxL := 3) (ret := (some .int)) (by decide) rfl ?_
  intro p e s m args below meth c s₁ B hml hv
  obtain ⟨rfl, hP, hK, hZ⟩ := hv
  have cx : Cxx D C adK adV (fxA A 60) p s m _ meth c cX10_set 3 RX10 (some .int) := ⟨B.exec, B.bytes, hml, findClass_of_methodNamed B.named, fun w h => atoms_spec (ws := Cond.code yX10_set cX10_set 3 (some .int) :: wsL_law) B.pre w (List.mem_cons_of_mem _ h), hK, B.returns, B.notSynchronized, hZ⟩
  obtain ⟨hx, hb, -, hown, hts, -, hr, hlk, -⟩ := id cx
  have hS : va_S (fxA A 60) s.heap s.heap [] := va_S.rf
  have hl := lv_entry ([.ref (A 0), .int x1, .int x2]) (n := 3) (Nat.le_of_ble_eq_true rfl)
  rw [lg_entry_eq]
  generalize (lg_sl ([.ref (A 0), .int x1, .int x2]) ++ List.replicate (3 - (lg_sl ([.ref (A 0), .int x1, .int x2])).length) Slot.unset).toArray = ls at hl ⊢
  have hl : lv_has ls 3 [(0, .ref (A 0)), (1, .int x1), (2, .int x2)] := hl
  show W p l e rm_X10_set s m _ below meth c s.heap [] 0 0 _ _
  refine lv_aload_n hx hb dX10_set_0 rfl (lv_at hl 0 rfl) ?_
  refine gX_0_3 hx hb hts hown hK hP (hts _ kw_28) dX10_set_1 ?_
  refine lv_iload_n hx hb dX10_set_4 rfl (lv_at hl 1 rfl) ?_
  obtain ⟨⟨r1, σ_r1⟩, h_r1, hf⟩ := bd_some hf
  refine cx_V (As := [.int x1]) (rest := []) cx (ct_xX5_has l D C A adK adV hA h_r1) (cw_X10_145 hts ⟨Nat.le_of_ble_eq_true rfl, Nat.le_of_ble_eq_true rfl⟩) (va_recv hK hP (ci := 5) (q0 := 10) rfl (wX_10 A C _)) hP hS rfl hl.1 rfl (Nat.le_of_ble_eq_true rfl) dX10_set_5 ⟨Nat.zero_le _, Nat.zero_le _⟩ (fun H locs hP hS => ?_)
  refine lv_if_ne (tgt := 14) hx hb dX10_set_8 (by decide) (fun c2 => ?_) (fun c2 => ?_)
  · have hf := (if_neg c2).symm.trans hf
    refine lv_aload_n hx hb dX10_set_14 rfl (lv_at hl 0 rfl) ?_
    refine gX_0_3 hx hb hts hown hK hP (hts _ kw_28) dX10_set_15 ?_
    refine gX_10_2 hx hb hts hown hK hP (hts _ kw_578) dX10_set_18 ?_
    refine lv_iload_n hx hb dX10_set_21 rfl (lv_at hl 1 rfl) ?_
    refine lv_iload_n hx hb dX10_set_22 rfl (lv_at hl 2 rfl) ?_
    obtain ⟨z3, hf⟩ := gd_some hf
    refine pX_a11 hx hb hK hP hA hS (ib_in z3) dX10_set_23 (fun H locs hP hS => ?_)
    refine lv_iconst (v := 1) hx hb dX10_set_24 (by decide) ?_
    have hP : va_P D vwCl (wX A C (sA σ_r1 11 (upd (σ_r1.2.1 11) x1.toNatClampNeg x2))) H := hP
    exact cx_iret cx hP hS hf dX10_set_25
  · have hf := (if_pos c2).symm.trans hf
    refine lv_bipush (v := (-2)) hx hb dX10_set_11 (by decide) ?_
    exact cx_iret cx hP hS hf dX10_set_13
set_option maxHeartbeats 4000000 in
set_option maxRecDepth 100000 in
theorem ct_xX10_entry (l : Launch) (D : va_G) (C : Nat → ClassId) (A adK adV : Nat → Nat) (hA : apA A 60) {x1 : Int32} {σ : St} {res : (Int32 × St)} (hf : F_xX10_entry x1 σ = some res) : Met l yX10_entry (Cond.code yX10_entry cX10_entry 3 (some .int) :: wsL_law) rm_X10_entry (Pcx D C (wX A C) adK adV (fxA A 60) [.ref (A 0), .int x1] σ) (Qcx D (wX A C) (fxA A 60) (some (.int res.1)) res.2) 0 0 (fxA A 60) := by
  refine Met.ofW (cc := cX10_entry) (maxL := 3) (ret := (some .int)) (by decide) rfl ?_
  intro p e s m args below meth c s₁ B hml hv
  obtain ⟨rfl, hP, hK, hZ⟩ := hv
  have cx : Cxx D C adK adV (fxA A 60) p s m _ meth c cX10_entry 3 RX10 (some .int) := ⟨B.exec, B.bytes, hml, findClass_of_methodNamed B.named, fun w h => atoms_spec (ws := Cond.code yX10_entry cX10_entry 3 (some .int) :: wsL_law) B.pre w (List.mem_cons_of_mem _ h), hK, B.returns, B.notSynchronized, hZ⟩
  obtain ⟨hx, hb, -, hown, hts, -, hr, hlk, -⟩ := id cx
  have hS : va_S (fxA A 60) s.heap s.heap [] := va_S.rf
  have hl := lv_entry ([.ref (A 0), .int x1]) (n := 3) (Nat.le_of_ble_eq_true rfl)
  rw [lg_entry_eq]
  generalize (lg_sl ([.ref (A 0), .int x1]) ++ List.replicate (3 - (lg_sl ([.ref (A 0), .int x1])).length) Slot.unset).toArray = ls at hl ⊢
  have hl : lv_has ls 3 [(0, .ref (A 0)), (1, .int x1)] := hl
  show W p l e rm_X10_entry s m _ below meth c s.heap [] 0 0 _ _
  refine lv_aload_n hx hb dX10_entry_0 rfl (lv_at hl 0 rfl) ?_
  refine gX_0_3 hx hb hts hown hK hP (hts _ kw_28) dX10_entry_1 ?_
  refine lv_iload_n hx hb dX10_entry_4 rfl (lv_at hl 1 rfl) ?_
  obtain ⟨⟨r1, σ_r1⟩, h_r1, hf⟩ := bd_some hf
  refine cx_V (As := [.int x1]) (rest := []) cx (ct_xX5_has l D C A adK adV hA h_r1) (cw_X10_145 hts ⟨Nat.le_of_ble_eq_true rfl, Nat.le_of_ble_eq_true rfl⟩) (va_recv hK hP (ci := 5) (q0 := 10) rfl (wX_10 A C _)) hP hS rfl hl.1 rfl (Nat.le_of_ble_eq_true rfl) dX10_entry_5 ⟨Nat.zero_le _, Nat.zero_le _⟩ (fun H locs hP hS => ?_)
  refine lv_if_ne (tgt := 14) hx hb dX10_entry_8 (by decide) (fun c2 => ?_) (fun c2 => ?_)
  · have hf := (if_neg c2).symm.trans hf
    refine lv_aload_n hx hb dX10_entry_14 rfl (lv_at hl 0 rfl) ?_
    refine gX_0_3 hx hb hts hown hK hP (hts _ kw_28) dX10_entry_15 ?_
    refine gX_10_1 hx hb hts hown hK hP (v := (σ_r1.1 12)) rfl (hts _ kw_566) dX10_entry_18 ?_
    refine lv_istore_n (lv' := [(2, .int (σ_r1.1 12)), (0, .ref (A 0)), (1, .int x1)]) hx hb dX10_entry_21 rfl hl (by decide) rfl (fun ls hl => ?_)
    refine lv_aload_n hx hb dX10_entry_22 rfl (lv_at hl 1 rfl) ?_
    refine gX_0_3 hx hb hts hown hK hP (hts _ kw_28) dX10_entry_23 ?_
    refine lv_iload_n hx hb dX10_entry_26 rfl (lv_at hl 2 rfl) ?_
    refine pX_10_1 hx hb hts hown hK hP hA hS (hts _ kw_566) dX10_entry_27 (fun H locs hP hS => ?_)
    refine lv_iload_n hx hb dX10_entry_30 rfl (lv_at hl 0 rfl) ?_
    have hP : va_P D vwCl (wX A C (sI σ_r1 12 x1)) H := hP
    exact cx_iret cx hP hS hf dX10_entry_31
  · have hf := (if_pos c2).symm.trans hf
    refine lv_bipush (v := (-2)) hx hb dX10_entry_11 (by decide) ?_
    exact cx_iret cx hP hS hf dX10_entry_13
set_option maxHeartbeats 4000000 in
set_option maxRecDepth 100000 in
theorem w_F_xX0_extraTime_27 {p : Program} {l : Launch} {e : Env} {s : State} {m : MethodId} {args : Array Value} {below : List Frame} {meth : Method} {c : Code} {D : va_G} {C : Nat → ClassId} {A adK adV : Nat → Nat} (hA : apA A 60) (cx : Cxx D C adK adV (fxA A 60) p s m args meth c cX0_extraTime 3 RX0 (some .int)) {res : (Int32 × St)} : ∀ (x1 : Int32) (σ : St) (H : Heap) (locs : List Loc) (ls : Array Slot), F_xX0_extraTime_27 x1 σ = some res → lv_has ls 3 [(1, .int x1)] → va_P D vwCl (wX A C σ) H → va_S (fxA A 60) s.heap H locs → W p l e rm_X0_extraTime s m args below meth c H locs 0 0 (MQ below (Qcx D (wX A C) (fxA A 60) (some (.int res.1)) res.2) args s 0 0 (fxA A 60)) (F0 m 27 ls []) := by
  obtain ⟨hx, hb, hml, hown, hts, hK, hr, hlk, hZ⟩ := id cx
  intro x1 σ H locs ls hf hl hP hS
  refine lv_iload_n hx hb dX0_extraTime_27 rfl (lv_at hl 0 rfl) ?_
  refine lv_bipush (v := 8) hx hb dX0_extraTime_28 (by decide) ?_
  refine lv_icmp_ne (tgt := 37) hx hb dX0_extraTime_30 (by decide) (fun c1 => ?_) (fun c1 => ?_)
  · have hf := (if_neg c1).symm.trans hf
    refine lv_iconst (v := 0) hx hb dX0_extraTime_37 (by decide) ?_
    exact cx_iret cx hP hS hf dX0_extraTime_38
  · have hf := (if_pos c1).symm.trans hf
    refine lv_iconst (v := 3) hx hb dX0_extraTime_33 (by decide) ?_
    refine lv_goto (tgt := 38) hx hb dX0_extraTime_34 (by decide) ?_
    exact cx_iret cx hP hS hf dX0_extraTime_38
set_option maxHeartbeats 4000000 in
set_option maxRecDepth 100000 in
theorem ct_xX0_extraTime (l : Launch) (D : va_G) (C : Nat → ClassId) (A adK adV : Nat → Nat) (hA : apA A 60) {x1 : Int32} {x2 : Int32} {σ : St} {res : (Int32 × St)} (hf : F_xX0_extraTime x1 x2 σ = some res) : Met l yX0_extraTime (Cond.code yX0_extraTime cX0_extraTime 3 (some .int) :: wsL_law) rm_X0_extraTime (Pcx D C (wX A C) adK adV (fxA A 60) [.ref (A 37), .int x1, .int x2] σ) (Qcx D (wX A C) (fxA A 60) (some (.int res.1)) res.2) 0 0 (fxA A 60) := by
  refine Met.ofW (cc := cX0_extraTime) (maxL := 3) (ret := (some .int)) (by decide) rfl ?_
  intro p e s m args below meth c s₁ B hml hv
  obtain ⟨rfl, hP, hK, hZ⟩ := hv
  have cx : Cxx D C adK adV (fxA A 60) p s m _ meth c cX0_extraTime 3 RX0 (some .int) := ⟨B.exec, B.bytes, hml, findClass_of_methodNamed B.named, fun w h => atoms_spec (ws := Cond.code yX0_extraTime cX0_extraTime 3 (some .int) :: wsL_law) B.pre w (List.mem_cons_of_mem _ h), hK, B.returns, B.notSynchronized, hZ⟩
  obtain ⟨hx, hb, -, hown, hts, -, hr, hlk, -⟩ := id cx
  have hS : va_S (fxA A 60) s.heap s.heap [] := va_S.rf
  have hl := lv_entry ([.ref (A 37), .int x1, .int x2]) (n := 3) (Nat.le_of_ble_eq_true rfl)
  rw [lg_entry_eq]
  generalize (lg_sl ([.ref (A 37), .int x1, .int x2]) ++ List.replicate (3 - (lg_sl ([.ref (A 37), .int x1, .int x2])).length) Slot.unset).toArray = ls at hl ⊢
  have hl : lv_has ls 3 [(0, .ref (A 37)), (1, .int x1), (2, .int x2)] := hl
  show W p l e rm_X0_extraTime s m _ below meth c s.heap [] 0 0 _ _
  refine lv_iload_n hx hb dX0_extraTime_0 rfl (lv_at hl 1 rfl) ?_
  refine lv_iconst (v := 4) hx hb dX0_extraTime_1 (by decide) ?_
  refine lv_icmp_ne (tgt := 27) hx hb dX0_extraTime_2 (by decide) (fun c2 => ?_) (fun c2 => ?_)
  · have hf := (if_neg c2).symm.trans hf
    exact w_F_xX0_extraTime_27 hA cx _ _ _ _ _ hf (lv_sub hl [1] rfl) hP hS
  · have hf := (if_pos c2).symm.trans hf
    refine lv_iload_n hx hb dX0_extraTime_5 rfl (lv_at hl 2 rfl) ?_
    refine lv_if_lt (tgt := 27) hx hb dX0_extraTime_6 (by decide) (fun c3 => ?_) (fun c3 => ?_)
    · have hf := (if_pos c3).symm.trans hf
      exact w_F_xX0_extraTime_27 hA cx _ _ _ _ _ hf (lv_sub hl [1] rfl) hP hS
    · have hf := (if_neg c3).symm.trans hf
      refine lv_iload_n hx hb dX0_extraTime_9 rfl (lv_at hl 2 rfl) ?_
      refine lv_bipush (v := 40) hx hb dX0_extraTime_10 (by decide) ?_
      refine lv_icmp_ge (tgt := 27) hx hb dX0_extraTime_12 (by decide) (fun c4 => ?_) (fun c4 => ?_)
      · have hf := (if_pos c4).symm.trans hf
        exact w_F_xX0_extraTime_27 hA cx _ _ _ _ _ hf (lv_sub hl [1] rfl) hP hS
      · have hf := (if_neg c4).symm.trans hf
        refine lv_iconst (v := 2) hx hb dX0_extraTime_15 (by decide) ?_
        refine lv_aload_n hx hb dX0_extraTime_16 rfl (lv_at hl 0 rfl) ?_
        refine gX_37_1 hx hb hts hown hK hP (hts _ kw_117) dX0_extraTime_17 ?_
        refine lv_iload_n hx hb dX0_extraTime_20 rfl (lv_at hl 2 rfl) ?_
        obtain ⟨z5, hf⟩ := gd_some hf
        refine gX_a39 hx hb hK hP (ib_in z5) (v := (σ.2.1 39 x2.toNatClampNeg)) rfl dX0_extraTime_21 ?_
        obtain ⟨⟨r6, σ_r6⟩, h_r6, hf⟩ := bd_some hf
        refine cx_S (As := [.int (σ.2.1 39 x2.toNatClampNeg)]) (rest := [.int 2]) cx (ct_xJ6_bitCount_0f7a4 l D C A adK adV hA h_r6) (cw_X0_85 hts ⟨Nat.le_of_ble_eq_true rfl, Nat.le_of_ble_eq_true rfl⟩) hP hS rfl hl.1 rfl (Nat.le_of_ble_eq_true rfl) dX0_extraTime_22 ⟨Nat.zero_le _, Nat.zero_le _⟩ (fun H locs hP hS => ?_)
        refine lv_iadd hx hb dX0_extraTime_25 ?_
        exact cx_iret cx hP hS hf dX0_extraTime_26
