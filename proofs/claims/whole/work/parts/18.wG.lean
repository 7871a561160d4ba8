set_option maxHeartbeats 4000000 in
set_option maxRecDepth 100000 in
theorem w_F_xX9_readNumber_70 {p : Program} {l : Launch} {e : Env} {s : State} {m : MethodId} {args : Array Value} {below : List Frame} {meth : Method} {c : Code} {D : va_G} {C : Nat → ClassId} {A adK adV : Nat → Nat} (hA : apA A 60) (cx : Cxx D C adK adV (fxA A 60) p s m args meth c cX9_readNumber 2 RX9 none) {res : St} : ∀ (σ : St) (H : Heap) (locs : List Loc) (ls : Array Slot), F_xX9_readNumber_70 σ = some res → lv_has ls 2 [(0, .ref (A 1))] → va_P D vwCl (wX A C σ) H → va_S (fxA A 60) s.heap H locs → W p l e rm_X9_readNumber s m args below meth c H locs 0 0 (MQ below (Qcx D (wX A C) (fxA A 60) none res) args s 0 0 (fxA A 60)) (F0 m 70 ls []) := by
  obtain ⟨hx, hb, hml, hown, hts, hK, hr, hlk, hZ⟩ := id cx
  intro σ H locs ls hf hl hP hS
  refine lv_aload_n hx hb dX9_readNumber_70 rfl (lv_at hl 0 rfl) ?_
  refine lv_aload_n hx hb dX9_readNumber_71 rfl (lv_at hl 0 rfl) ?_
  refine gX_1_2 hx hb hts hown hK hP (v := (σ.1 1)) rfl (hts _ kw_231) dX9_readNumber_72 ?_
  refine lv_aload_n hx hb dX9_readNumber_75 rfl (lv_at hl 0 rfl) ?_
  refine gX_1_4 hx hb hts hown hK hP (v := (σ.1 3)) rfl (hts _ kw_237) dX9_readNumber_76 ?_
  refine lv_isub hx hb dX9_readNumber_79 ?_
  refine lv_bipush (v := 9) hx hb dX9_readNumber_80 (by decide) ?_
  refine lv_icmp_le (tgt := 89) hx hb dX9_readNumber_82 (by decide) (fun c1 => ?_) (fun c1 => ?_)
  · have hf := (if_pos c1).symm.trans hf
    refine lv_iconst (v := 2) hx hb dX9_readNumber_89 (by decide) ?_
    refine pX_1_3 hx hb hts hown hK hP hA hS (hts _ kw_238) dX9_readNumber_90 (fun H locs hP hS => ?_)
    have hP : va_P D vwCl (wX A C (sI σ 2 2)) H := hP
    exact cx_vret cx hP hS hf dX9_readNumber_93
  · have hf := (if_neg c1).symm.trans hf
    refine lv_iconst (v := 3) hx hb dX9_readNumber_85 (by decide) ?_
    refine lv_goto (tgt := 90) hx hb dX9_readNumber_86 (by decide) ?_
    refine pX_1_3 hx hb hts hown hK hP hA hS (hts _ kw_238) dX9_readNumber_90 (fun H locs hP hS => ?_)
    have hP : va_P D vwCl (wX A C (sI σ 2 3)) H := hP
    exact cx_vret cx hP hS hf dX9_readNumber_93
set_option maxHeartbeats 4000000 in
set_option maxRecDepth 100000 in
theorem w_F_xX9_readNumber_14 {p : Program} {l : Launch} {e : Env} {s : State} {m : MethodId} {args : Array Value} {below : List Frame} {meth : Method} {c : Code} {D : va_G} {C : Nat → ClassId} {A adK adV : Nat → Nat} (hA : apA A 60) (cx : Cxx D C adK adV (fxA A 60) p s m args meth c cX9_readNumber 2 RX9 none) {res : St} : ∀ (n : Nat), ∀ (x1 : Int32) (σ : St) (H : Heap) (locs : List Loc) (ls : Array Slot), F_xX9_readNumber_14 n x1 σ = some res → lv_has ls 2 [(0, .ref (A 1)), (1, .int x1)] → va_P D vwCl (wX A C σ) H → va_S (fxA A 60) s.heap H locs → W p l e rm_X9_readNumber s m args below meth c H locs 0 0 (MQ below (Qcx D (wX A C) (fxA A 60) none res) args s 0 0 (fxA A 60)) (F0 m 14 ls []) := by
  obtain ⟨hx, hb, hml, hown, hts, hK, hr, hlk, hZ⟩ := id cx
  intro n
  induction n with
  | zero =>
    intro x1 σ H locs ls hf hl hP hS
    exact absurd (show (none : Option St) = some res from hf) (by intro h; cases h)
  | succ n ih =>
    intro x1 σ H locs ls hf hl hP hS
    refine lv_aload_n hx hb dX9_readNumber_14 rfl (lv_at hl 0 rfl) ?_
    refine gX_1_2 hx hb hts hown hK hP (v := (σ.1 1)) rfl (hts _ kw_231) dX9_readNumber_15 ?_
    refine lv_aload_n hx hb dX9_readNumber_18 rfl (lv_at hl 0 rfl) ?_
    refine gX_1_1 hx hb hts hown hK hP (v := (σ.1 0)) rfl (hts _ kw_197) dX9_readNumber_19 ?_
    refine lv_icmp_ge (tgt := 70) hx hb dX9_readNumber_22 (by decide) (fun c2 => ?_) (fun c2 => ?_)
    · have hf := (if_pos c2).symm.trans hf
      exact w_F_xX9_readNumber_70 hA cx _ _ _ _ hf (lv_sub hl [0] rfl) hP hS
    · have hf := (if_neg c2).symm.trans hf
      refine lv_iload_n hx hb dX9_readNumber_25 rfl (lv_at hl 1 rfl) ?_
      obtain ⟨⟨r3, σ_r3⟩, h_r3, hf⟩ := bd_some hf
      refine cx_S (As := [.int x1]) (rest := []) cx (ct_xX9_isDigit l D C A adK adV hA h_r3) (cw_X9_48 hts ⟨Nat.le_of_ble_eq_true rfl, Nat.le_of_ble_eq_true rfl⟩) hP hS rfl hl.1 rfl (Nat.le_of_ble_eq_true rfl) dX9_readNumber_26 ⟨Nat.zero_le _, Nat.zero_le _⟩ (fun H locs hP hS => ?_)
      refine lv_if_eq (tgt := 70) hx hb dX9_readNumber_29 (by decide) (fun c4 => ?_) (fun c4 => ?_)
      · have hf := (if_pos c4).symm.trans hf
        exact w_F_xX9_readNumber_70 hA cx _ _ _ _ hf (lv_sub hl [0] rfl) hP hS
      · have hf := (if_neg c4).symm.trans hf
        refine lv_aload_n hx hb dX9_readNumber_32 rfl (lv_at hl 0 rfl) ?_
        refine lv_aload_n hx hb dX9_readNumber_33 rfl (lv_at hl 0 rfl) ?_
        refine gX_1_5 hx hb hts hown hK hP (v := (σ_r3.1 4)) rfl (hts _ kw_250) dX9_readNumber_34 ?_
        refine lv_bipush (v := 10) hx hb dX9_readNumber_37 (by decide) ?_
        refine lv_imul hx hb dX9_readNumber_39 ?_
        refine lv_iload_n hx hb dX9_readNumber_40 rfl (lv_at hl 1 rfl) ?_
        refine lv_iadd hx hb dX9_readNumber_41 ?_
        refine lv_bipush (v := 48) hx hb dX9_readNumber_42 (by decide) ?_
        refine lv_isub hx hb dX9_readNumber_44 ?_
        refine pX_1_5 hx hb hts hown hK hP hA hS (hts _ kw_250) dX9_readNumber_45 (fun H locs hP hS => ?_)
        refine lv_aload_n hx hb dX9_readNumber_48 rfl (lv_at hl 0 rfl) ?_
        refine lv_dup hx hb dX9_readNumber_49 rfl ?_
        refine gX_1_2 hx hb hts hown hK hP (v := (σ_r3.1 1)) rfl (hts _ kw_231) dX9_readNumber_50 ?_
        refine lv_iconst (v := 1) hx hb dX9_readNumber_53 (by decide) ?_
        refine lv_iadd hx hb dX9_readNumber_54 ?_
        refine pX_1_2 hx hb hts hown hK hP hA hS (hts _ kw_231) dX9_readNumber_55 (fun H locs hP hS => ?_)
        refine lv_aload_n hx hb dX9_readNumber_58 rfl (lv_at hl 0 rfl) ?_
        refine lv_aload_n hx hb dX9_readNumber_59 rfl (lv_at hl 0 rfl) ?_
        refine gX_1_2 hx hb hts hown hK hP (v := ((σ_r3.1 1) + 1)) rfl (hts _ kw_231) dX9_readNumber_60 ?_
        have hP : va_P D vwCl (wX A C (sI (sI σ_r3 1 ((σ_r3.1 1) + 1)) 4 ((((σ_r3.1 4) * 10) + x1) - 48))) H := hP
        obtain ⟨⟨r5, σ_r5⟩, h_r5, hf⟩ := bd_some hf
        refine cx_V (As := [.int ((σ_r3.1 1) + 1)]) (rest := []) cx (ct_xX9_byteAt l D C A adK adV hA h_r5) (cw_X9_31 hts ⟨Nat.le_of_ble_eq_true rfl, Nat.le_of_ble_eq_true rfl⟩) (va_recv hK hP (ci := 9) (q0 := 1) rfl (wX_1 A C _)) hP hS rfl hl.1 rfl (Nat.le_of_ble_eq_true rfl) dX9_readNumber_63 ⟨Nat.zero_le _, Nat.zero_le _⟩ (fun H locs hP hS => ?_)
        refine lv_istore_n (lv' := [(1, .int r5), (0, .ref (A 1))]) hx hb dX9_readNumber_66 rfl hl (by decide) rfl (fun ls hl => ?_)
        refine lv_goto (tgt := 14) hx hb dX9_readNumber_67 (by decide) ?_
        exact ih _ _ _ _ _ hf (lv_sub hl [1, 0] rfl) hP hS
set_option maxHeartbeats 4000000 in
set_option maxRecDepth 100000 in
theorem ct_xX9_readNumber (l : Launch) (D : va_G) (C : Nat → ClassId) (A adK adV : Nat → Nat) (hA : apA A 60)  {σ : St} {res : St} (hf : F_xX9_readNumber σ = some res) : Met l yX9_readNumber (Cond.code yX9_readNumber cX9_readNumber 2 none :: wsL_law) rm_X9_readNumber (Pcx D C (wX A C) adK adV (fxA A 60) [.ref (A 1)] σ) (Qcx D (wX A C) (fxA A 60) none res) 0 0 (fxA A 60) := by
  refine Met.ofW (cc := cX9_readNumber) (maxL := 2) (ret := none) (by decide) rfl ?_
  intro p e s m args below meth c s₁ B hml hv
  obtain ⟨rfl, hP, hK, hZ⟩ := hv
  have cx : Cxx D C adK adV (fxA A 60) p s m _ meth c cX9_readNumber 2 RX9 none := ⟨B.exec, B.bytes, hml, findClass_of_methodNamed B.named, fun w h => atoms_spec (ws := Cond.code yX9_readNumber cX9_readNumber 2 none :: wsL_law) B.pre w (List.mem_cons_of_mem _ h), hK, B.returns, B.notSynchronized, hZ⟩
  obtain ⟨hx, hb, -, hown, hts, -, hr, hlk, -⟩ := id cx
  have hS : va_S (fxA A 60) s.heap s.heap [] := va_S.rf
  have hl := lv_entry ([.ref (A 1)]) (n := 2) (Nat.le_of_ble_eq_true rfl)
  rw [lg_entry_eq]
  generalize (lg_sl ([.ref (A 1)]) ++ List.replicate (2 - (lg_sl ([.ref (A 1)])).length) Slot.unset).toArray = ls at hl ⊢
  have hl : lv_has ls 2 [(0, .ref (A 1))] := hl
  show W p l e rm_X9_readNumber s m _ below meth c s.heap [] 0 0 _ _
  refine lv_aload_n hx hb dX9_readNumber_0 rfl (lv_at hl 0 rfl) ?_
  refine lv_iconst (v := 0) hx hb dX9_readNumber_1 (by decide) ?_
  refine pX_1_5 hx hb hts hown hK hP hA hS (hts _ kw_250) dX9_readNumber_2 (fun H locs hP hS => ?_)
  refine lv_aload_n hx hb dX9_readNumber_5 rfl (lv_at hl 0 rfl) ?_
  refine lv_aload_n hx hb dX9_readNumber_6 rfl (lv_at hl 0 rfl) ?_
  refine gX_1_2 hx hb hts hown hK hP (v := (σ.1 1)) rfl (hts _ kw_231) dX9_readNumber_7 ?_
  have hP : va_P D vwCl (wX A C (sI σ 4 0)) H := hP
  obtain ⟨⟨r6, σ_r6⟩, h_r6, hf⟩ := bd_some hf
  refine cx_V (As := [.int (σ.1 1)]) (rest := []) cx (ct_xX9_byteAt l D C A adK adV hA h_r6) (cw_X9_31 hts ⟨Nat.le_of_ble_eq_true rfl, Nat.le_of_ble_eq_true rfl⟩) (va_recv hK hP (ci := 9) (q0 := 1) rfl (wX_1 A C _)) hP hS rfl hl.1 rfl (Nat.le_of_ble_eq_true rfl) dX9_readNumber_10 ⟨Nat.zero_le _, Nat.zero_le _⟩ (fun H locs hP hS => ?_)
  refine lv_istore_n (lv' := [(1, .int r6), (0, .ref (A 1))]) hx hb dX9_readNumber_13 rfl hl (by decide) rfl (fun ls hl => ?_)
  exact w_F_xX9_readNumber_14 hA cx FU _ _ _ _ _ hf (lv_sub hl [1, 0] rfl) hP hS
set_option maxHeartbeats 4000000 in
set_option maxRecDepth 100000 in
theorem ct_xX9_codeWith (l : Launch) (D : va_G) (C : Nat → ClassId) (A adK adV : Nat → Nat) (hA : apA A 60) {x0 : Int32} {x1 : Int32} {σ : St} {res : (Int32 × St)} (hf : F_xX9_codeWith x0 x1 σ = some res) : Met l yX9_codeWith (Cond.code yX9_codeWith cX9_codeWith 2 (some .int) :: wsL_law) rm_X9_codeWith (Pcx D C (wX A C) adK adV (fxA A 60) [.int x0, .int x1] σ) (Qcx D (wX A C) (fxA A 60) (some (.int res.1)) res.2) 0 0 (fxA A 60) := by
  refine Met.ofW (cc := cX9_codeWith) (maxL := 2) (ret := (some .int)) (by decide) rfl ?_
  intro p e s m args below meth c s₁ B hml hv
  obtain ⟨rfl, hP, hK, hZ⟩ := hv
  have cx : Cxx D C adK adV (fxA A 60) p s m _ meth c cX9_codeWith 2 RX9 (some .int) := ⟨B.exec, B.bytes, hml, findClass_of_methodNamed B.named, fun w h => atoms_spec (ws := Cond.code yX9_codeWith cX9_codeWith 2 (some .int) :: wsL_law) B.pre w (List.mem_cons_of_mem _ h), hK, B.returns, B.notSynchronized, hZ⟩
  obtain ⟨hx, hb, -, hown, hts, -, hr, hlk, -⟩ := id cx
  have hS : va_S (fxA A 60) s.heap s.heap [] := va_S.rf
  have hl := lv_entry ([.int x0, .int x1]) (n := 2) (Nat.le_of_ble_eq_true rfl)
  rw [lg_entry_eq]
  generalize (lg_sl ([.int x0, .int x1]) ++ List.replicate (2 - (lg_sl ([.int x0, .int x1])).length) Slot.unset).toArray = ls at hl ⊢
  have hl : lv_has ls 2 [(0, .int x0), (1, .int x1)] := hl
  show W p l e rm_X9_codeWith s m _ below meth c s.heap [] 0 0 _ _
  refine lv_iload_n hx hb dX9_codeWith_0 rfl (lv_at hl 0 rfl) ?_
  refine lv_bipush (v := 32) hx hb dX9_codeWith_1 (by decide) ?_
  refine lv_imul hx hb dX9_codeWith_3 ?_
  refine lv_iload_n hx hb dX9_codeWith_4 rfl (lv_at hl 1 rfl) ?_
  refine lv_iadd hx hb dX9_codeWith_5 ?_
  refine lv_bipush (v := 97) hx hb dX9_codeWith_6 (by decide) ?_
  refine lv_isub hx hb dX9_codeWith_8 ?_
  refine lv_iconst (v := 1) hx hb dX9_codeWith_9 (by decide) ?_
  refine lv_iadd hx hb dX9_codeWith_10 ?_
  exact cx_iret cx hP hS hf dX9_codeWith_11
set_option maxHeartbeats 4000000 in
set_option maxRecDepth 100000 in
theorem w_F_xX9_readWord_66 {p : Program} {l : Launch} {e : Env} {s : State} {m : MethodId} {args : Array Value} {below : List Frame} {meth : Method} {c : Code} {D : va_G} {C : Nat → ClassId} {A adK adV : Nat → Nat} (hA : apA A 60) (cx : Cxx D C adK adV (fxA A 60) p s m args meth c cX9_readWord 2 RX9 none) {res : St} : ∀ (σ : St) (H : Heap) (locs : List Loc) (ls : Array Slot), F_xX9_readWord_66 σ = some res → lv_has ls 2 [(0, .ref (A 1))] → va_P D vwCl (wX A C σ) H → va_S (fxA A 60) s.heap H locs → W p l e rm_X9_readWord s m args below meth c H locs 0 0 (MQ below (Qcx D (wX A C) (fxA A 60) none res) args s 0 0 (fxA A 60)) (F0 m 66 ls []) := by
  obtain ⟨hx, hb, hml, hown, hts, hK, hr, hlk, hZ⟩ := id cx
  intro σ H locs ls hf hl hP hS
  refine lv_aload_n hx hb dX9_readWord_66 rfl (lv_at hl 0 rfl) ?_
  refine lv_aload_n hx hb dX9_readWord_67 rfl (lv_at hl 0 rfl) ?_
  refine gX_1_2 hx hb hts hown hK hP (v := (σ.1 1)) rfl (hts _ kw_231) dX9_readWord_68 ?_
  refine lv_aload_n hx hb dX9_readWord_71 rfl (lv_at hl 0 rfl) ?_
  refine gX_1_4 hx hb hts hown hK hP (v := (σ.1 3)) rfl (hts _ kw_237) dX9_readWord_72 ?_
  refine lv_isub hx hb dX9_readWord_75 ?_
  refine lv_bipush (v := 6) hx hb dX9_readWord_76 (by decide) ?_
  refine lv_icmp_le (tgt := 85) hx hb dX9_readWord_78 (by decide) (fun c1 => ?_) (fun c1 => ?_)
  · have hf := (if_pos c1).symm.trans hf
    refine lv_iconst (v := 1) hx hb dX9_readWord_85 (by decide) ?_
    refine pX_1_3 hx hb hts hown hK hP hA hS (hts _ kw_238) dX9_readWord_86 (fun H locs hP hS => ?_)
    have hP : va_P D vwCl (wX A C (sI σ 2 1)) H := hP
    exact cx_vret cx hP hS hf dX9_readWord_89
  · have hf := (if_neg c1).symm.trans hf
    refine lv_iconst (v := 3) hx hb dX9_readWord_81 (by decide) ?_
    refine lv_goto (tgt := 86) hx hb dX9_readWord_82 (by decide) ?_
    refine pX_1_3 hx hb hts hown hK hP hA hS (hts _ kw_238) dX9_readWord_86 (fun H locs hP hS => ?_)
    have hP : va_P D vwCl (wX A C (sI σ 2 3)) H := hP
    exact cx_vret cx hP hS hf dX9_readWord_89
set_option maxHeartbeats 4000000 in
set_option maxRecDepth 100000 in
theorem w_F_xX9_readWord_14 {p : Program} {l : Launch} {e : Env} {s : State} {m : MethodId} {args : Array Value} {below : List Frame} {meth : Method} {c : Code} {D : va_G} {C : Nat → ClassId} {A adK adV : Nat → Nat} (hA : apA A 60) (cx : Cxx D C adK adV (fxA A 60) p s m args meth c cX9_readWord 2 RX9 none) {res : St} : ∀ (n : Nat), ∀ (x1 : Int32) (σ : St) (H : Heap) (locs : List Loc) (ls : Array Slot), F_xX9_readWord_14 n x1 σ = some res → lv_has ls 2 [(0, .ref (A 1)), (1, .int x1)] → va_P D vwCl (wX A C σ) H → va_S (fxA A 60) s.heap H locs → W p l e rm_X9_readWord s m args below meth c H locs 0 0 (MQ below (Qcx D (wX A C) (fxA A 60) none res) args s 0 0 (fxA A 60)) (F0 m 14 ls []) := by
  obtain ⟨hx, hb, hml, hown, hts, hK, hr, hlk, hZ⟩ := id cx
  intro n
  induction n with
  | zero =>
    intro x1 σ H locs ls hf hl hP hS
    exact absurd (show (none : Option St) = some res from hf) (by intro h; cases h)
  | succ n ih =>
    intro x1 σ H locs ls hf hl hP hS
    refine lv_aload_n hx hb dX9_readWord_14 rfl (lv_at hl 0 rfl) ?_
    refine gX_1_2 hx hb hts hown hK hP (v := (σ.1 1)) rfl (hts _ kw_231) dX9_readWord_15 ?_
    refine lv_aload_n hx hb dX9_readWord_18 rfl (lv_at hl 0 rfl) ?_
    refine gX_1_1 hx hb hts hown hK hP (v := (σ.1 0)) rfl (hts _ kw_197) dX9_readWord_19 ?_
    refine lv_icmp_ge (tgt := 66) hx hb dX9_readWord_22 (by decide) (fun c2 => ?_) (fun c2 => ?_)
    · have hf := (if_pos c2).symm.trans hf
      exact w_F_xX9_readWord_66 hA cx _ _ _ _ hf (lv_sub hl [0] rfl) hP hS
    · have hf := (if_neg c2).symm.trans hf
      refine lv_iload_n hx hb dX9_readWord_25 rfl (lv_at hl 1 rfl) ?_
      obtain ⟨⟨r3, σ_r3⟩, h_r3, hf⟩ := bd_some hf
      refine cx_S (As := [.int x1]) (rest := []) cx (ct_xX9_isLetter l D C A adK adV hA h_r3) (cw_X9_41 hts ⟨Nat.le_of_ble_eq_true rfl, Nat.le_of_ble_eq_true rfl⟩) hP hS rfl hl.1 rfl (Nat.le_of_ble_eq_true rfl) dX9_readWord_26 ⟨Nat.zero_le _, Nat.zero_le _⟩ (fun H locs hP hS => ?_)
      refine lv_if_eq (tgt := 66) hx hb dX9_readWord_29 (by decide) (fun c4 => ?_) (fun c4 => ?_)
      · have hf := (if_pos c4).symm.trans hf
        exact w_F_xX9_readWord_66 hA cx _ _ _ _ hf (lv_sub hl [0] rfl) hP hS
      · have hf := (if_neg c4).symm.trans hf
        refine lv_aload_n hx hb dX9_readWord_32 rfl (lv_at hl 0 rfl) ?_
        refine lv_aload_n hx hb dX9_readWord_33 rfl (lv_at hl 0 rfl) ?_
        refine gX_1_5 hx hb hts hown hK hP (v := (σ_r3.1 4)) rfl (hts _ kw_250) dX9_readWord_34 ?_
        refine lv_iload_n hx hb dX9_readWord_37 rfl (lv_at hl 1 rfl) ?_
        obtain ⟨⟨r5, σ_r5⟩, h_r5, hf⟩ := bd_some hf
        refine cx_S (As := [.int (σ_r3.1 4), .int x1]) (rest := [.ref (A 1)]) cx (ct_xX9_codeWith l D C A adK adV hA h_r5) (cw_X9_57 hts ⟨Nat.le_of_ble_eq_true rfl, Nat.le_of_ble_eq_true rfl⟩) hP hS rfl hl.1 rfl (Nat.le_of_ble_eq_true rfl) dX9_readWord_38 ⟨Nat.zero_le _, Nat.zero_le _⟩ (fun H locs hP hS => ?_)
        refine pX_1_5 hx hb hts hown hK hP hA hS (hts _ kw_250) dX9_readWord_41 (fun H locs hP hS => ?_)
        refine lv_aload_n hx hb dX9_readWord_44 rfl (lv_at hl 0 rfl) ?_
        refine lv_dup hx hb dX9_readWord_45 rfl ?_
        refine gX_1_2 hx hb hts hown hK hP (v := (σ_r5.1 1)) rfl (hts _ kw_231) dX9_readWord_46 ?_
        refine lv_iconst (v := 1) hx hb dX9_readWord_49 (by decide) ?_
        refine lv_iadd hx hb dX9_readWord_50 ?_
        refine pX_1_2 hx hb hts hown hK hP hA hS (hts _ kw_231) dX9_readWord_51 (fun H locs hP hS => ?_)
        refine lv_aload_n hx hb dX9_readWord_54 rfl (lv_at hl 0 rfl) ?_
        refine lv_aload_n hx hb dX9_readWord_55 rfl (lv_at hl 0 rfl) ?_
        refine gX_1_2 hx hb hts hown hK hP (v := ((σ_r5.1 1) + 1)) rfl (hts _ kw_231) dX9_readWord_56 ?_
        have hP : va_P D vwCl (wX A C (sI (sI σ_r5 1 ((σ_r5.1 1) + 1)) 4 r5)) H := hP
        obtain ⟨⟨r6, σ_r6⟩, h_r6, hf⟩ := bd_some hf
        refine cx_V (As := [.int ((σ_r5.1 1) + 1)]) (rest := []) cx (ct_xX9_byteAt l D C A adK adV hA h_r6) (cw_X9_31 hts ⟨Nat.le_of_ble_eq_true rfl, Nat.le_of_ble_eq_true rfl⟩) (va_recv hK hP (ci := 9) (q0 := 1) rfl (wX_1 A C _)) hP hS rfl hl.1 rfl (Nat.le_of_ble_eq_true rfl) dX9_readWord_59 ⟨Nat.zero_le _, Nat.zero_le _⟩ (fun H locs hP hS => ?_)
        refine lv_istore_n (lv' := [(1, .int r6), (0, .ref (A 1))]) hx hb dX9_readWord_62 rfl hl (by decide) rfl (fun ls hl => ?_)
        refine lv_goto (tgt := 14) hx hb dX9_readWord_63 (by decide) ?_
        exact ih _ _ _ _ _ hf (lv_sub hl [1, 0] rfl) hP hS
set_option maxHeartbeats 4000000 in
set_option maxRecDepth 100000 in
theorem ct_xX9_readWord (l : Launch) (D : va_G) (C : Nat → ClassId) (A adK adV : Nat → Nat) (hA : apA A 60)  {σ : St} {res : St} (hf : F_xX9_readWord σ = some res) : Met l yX9_readWord (Cond.code yX9_readWord cX9_readWord 2 none :: wsL_law) rm_X9_readWord (Pcx D C (wX A C) adK adV (fxA A 60) [.ref (A 1)] σ) (Qcx D (wX A C) (fxA A 60) none res) 0 0 (fxA A 60) := by
  refine Met.ofW (cc := cX9_readWord) (maxL := 2) (ret := none) (by decide) rfl ?_
  intro p e s m args below meth c s₁ B hml hv
  obtain ⟨rfl, hP, hK, hZ⟩ := hv
  have cx : Cxx D C adK adV (fxA A 60) p s m _ meth c cX9_readWord 2 RX9 none := ⟨B.exec, B.bytes, hml, findClass_of_methodNamed B.named, fun w h => atoms_spec (ws := Cond.code yX9_readWord cX9_readWord 2 none :: wsL_law) B.pre w (List.mem_cons_of_mem _ h), hK, B.returns, B.notSynchronized, hZ⟩
  obtain ⟨hx, hb, -, hown, hts, -, hr, hlk, -⟩ := id cx
  have hS : va_S (fxA A 60) s.heap s.heap [] := va_S.rf
  have hl := lv_entry ([.ref (A 1)]) (n := 2) (Nat.le_of_ble_eq_true rfl)
  rw [lg_entry_eq]
  generalize (lg_sl ([.ref (A 1)]) ++ List.replicate (2 - (lg_sl ([.ref (A 1)])).length) Slot.unset).toArray = ls at hl ⊢
  have hl : lv_has ls 2 [(0, .ref (A 1))] := hl
  show W p l e rm_X9_readWord s m _ below meth c s.heap [] 0 0 _ _
  refine lv_aload_n hx hb dX9_readWord_0 rfl (lv_at hl 0 rfl) ?_
  refine lv_iconst (v := 0) hx hb dX9_readWord_1 (by decide) ?_
  refine pX_1_5 hx hb hts hown hK hP hA hS (hts _ kw_250) dX9_readWord_2 (fun H locs hP hS => ?_)
  refine lv_aload_n hx hb dX9_readWord_5 rfl (lv_at hl 0 rfl) ?_
  refine lv_aload_n hx hb dX9_readWord_6 rfl (lv_at hl 0 rfl) ?_
  refine gX_1_2 hx hb hts hown hK hP (v := (σ.1 1)) rfl (hts _ kw_231) dX9_readWord_7 ?_
  have hP : va_P D vwCl (wX A C (sI σ 4 0)) H := hP
  obtain ⟨⟨r7, σ_r7⟩, h_r7, hf⟩ := bd_some hf
  refine cx_V (As := [.int (σ.1 1)]) (rest := []) cx (ct_xX9_byteAt l D C A adK adV hA h_r7) (cw_X9_31 hts ⟨Nat.le_of_ble_eq_true rfl, Nat.le_of_ble_eq_true rfl⟩) (va_recv hK hP (ci := 9) (q0 := 1) rfl (wX_1 A C _)) hP hS rfl hl.1 rfl (Nat.le_of_ble_eq_true rfl) dX9_readWord_10 ⟨Nat.zero_le _, Nat.zero_le _⟩ (fun H locs hP hS => ?_)
  refine lv_istore_n (lv' := [(1, .int r7), (0, .ref (A 1))]) hx hb dX9_readWord_13 rfl hl (by decide) rfl (fun ls hl => ?_)
  exact w_F_xX9_readWord_14 hA cx FU _ _ _ _ _ hf (lv_sub hl [1, 0] rfl) hP hS
set_option maxHeartbeats 4000000 in
set_option maxRecDepth 100000 in
theorem w_F_xX9_advance_32 {p : Program} {l : Launch} {e : Env} {s : State} {m : MethodId} {args : Array Value} {below : List Frame} {meth : Method} {c : Code} {D : va_G} {C : Nat → ClassId} {A adK adV : Nat → Nat} (hA : apA A 60) (cx : Cxx D C adK adV (fxA A 60) p s m args meth c cX9_advance 2 RX9 none) {res : St} {b9 : Int32 → St → Option St} (hb9 : ∀ (x1 : Int32) (σ : St) (H : Heap) (locs : List Loc) (ls : Array Slot), b9 x1 σ = some res → lv_has ls 2 [(0, .ref (A 1)), (1, .int x1)] → va_P D vwCl (wX A C σ) H → va_S (fxA A 60) s.heap H locs → W p l e rm_X9_advance s m args below meth c H locs 0 0 (MQ below (Qcx D (wX A C) (fxA A 60) none res) args s 0 0 (fxA A 60)) (F0 m 9 ls [])) : ∀ (σ : St) (H : Heap) (locs : List Loc) (ls : Array Slot), F_xX9_advance_32 b9 σ = some res → lv_has ls 2 [(0, .ref (A 1))] → va_P D vwCl (wX A C σ) H → va_S (fxA A 60) s.heap H locs → W p l e rm_X9_advance s m args below meth c H locs 0 0 (MQ below (Qcx D (wX A C) (fxA A 60) none res) args s 0 0 (fxA A 60)) (F0 m 32 ls []) := by
  obtain ⟨hx, hb, hml, hown, hts, hK, hr, hlk, hZ⟩ := id cx
  intro σ H locs ls hf hl hP hS
  refine lv_aload_n hx hb dX9_advance_32 rfl (lv_at hl 0 rfl) ?_
  refine lv_dup hx hb dX9_advance_33 rfl ?_
  refine gX_1_2 hx hb hts hown hK hP (v := (σ.1 1)) rfl (hts _ kw_231) dX9_advance_34 ?_
  refine lv_iconst (v := 1) hx hb dX9_advance_37 (by decide) ?_
  refine lv_iadd hx hb dX9_advance_38 ?_
  refine pX_1_2 hx hb hts hown hK hP hA hS (hts _ kw_231) dX9_advance_39 (fun H locs hP hS => ?_)
  refine lv_aload_n hx hb dX9_advance_42 rfl (lv_at hl 0 rfl) ?_
  refine lv_aload_n hx hb dX9_advance_43 rfl (lv_at hl 0 rfl) ?_
  refine gX_1_2 hx hb hts hown hK hP (v := ((σ.1 1) + 1)) rfl (hts _ kw_231) dX9_advance_44 ?_
  have hP : va_P D vwCl (wX A C (sI σ 1 ((σ.1 1) + 1))) H := hP
  obtain ⟨⟨r12, σ_r12⟩, h_r12, hf⟩ := bd_some hf
  refine cx_V (As := [.int ((σ.1 1) + 1)]) (rest := []) cx (ct_xX9_byteAt l D C A adK adV hA h_r12) (cw_X9_31 hts ⟨Nat.le_of_ble_eq_true rfl, Nat.le_of_ble_eq_true rfl⟩) (va_recv hK hP (ci := 9) (q0 := 1) rfl (wX_1 A C _)) hP hS rfl hl.1 rfl (Nat.le_of_ble_eq_true rfl) dX9_advance_47 ⟨Nat.zero_le _, Nat.zero_le _⟩ (fun H locs hP hS => ?_)
  refine lv_istore_n (lv' := [(1, .int r12), (0, .ref (A 1))]) hx hb dX9_advance_50 rfl hl (by decide) rfl (fun ls hl => ?_)
  refine lv_goto (tgt := 9) hx hb dX9_advance_51 (by decide) ?_
  exact hb9 _ _ _ _ _ hf (lv_sub hl [1, 0] rfl) hP hS
set_option maxHeartbeats 4000000 in
set_option maxRecDepth 100000 in
theorem w_F_xX9_advance_128 {p : Program} {l : Launch} {e : Env} {s : State} {m : MethodId} {args : Array Value} {below : List Frame} {meth : Method} {c : Code} {D : va_G} {C : Nat → ClassId} {A adK adV : Nat → Nat} (hA : apA A 60) (cx : Cxx D C adK adV (fxA A 60) p s m args meth c cX9_advance 2 RX9 none) {res : St} : ∀ (x1 : Int32) (σ : St) (H : Heap) (locs : List Loc) (ls : Array Slot), F_xX9_advance_128 x1 σ = some res → lv_has ls 2 [(0, .ref (A 1)), (1, .int x1)] → va_P D vwCl (wX A C σ) H → va_S (fxA A 60) s.heap H locs → W p l e rm_X9_advance s m args below meth c H locs 0 0 (MQ below (Qcx D (wX A C) (fxA A 60) none res) args s 0 0 (fxA A 60)) (F0 m 128 ls [.ref (A 1)]) := by
  obtain ⟨hx, hb, hml, hown, hts, hK, hr, hlk, hZ⟩ := id cx
  intro x1 σ H locs ls hf hl hP hS
  refine lv_iload_n hx hb dX9_advance_128 rfl (lv_at hl 1 rfl) ?_
  refine lv_goto (tgt := 133) hx hb dX9_advance_129 (by decide) ?_
  refine pX_1_3 hx hb hts hown hK hP hA hS (hts _ kw_238) dX9_advance_133 (fun H locs hP hS => ?_)
  refine lv_aload_n hx hb dX9_advance_136 rfl (lv_at hl 0 rfl) ?_
  refine lv_dup hx hb dX9_advance_137 rfl ?_
  refine gX_1_2 hx hb hts hown hK hP (v := (σ.1 1)) rfl (hts _ kw_231) dX9_advance_138 ?_
  refine lv_iconst (v := 1) hx hb dX9_advance_141 (by decide) ?_
  refine lv_iadd hx hb dX9_advance_142 ?_
  refine pX_1_2 hx hb hts hown hK hP hA hS (hts _ kw_231) dX9_advance_143 (fun H locs hP hS => ?_)
  have hP : va_P D vwCl (wX A C (sI (sI σ 1 ((σ.1 1) + 1)) 2 x1)) H := hP
  exact cx_vret cx hP hS hf dX9_advance_146
set_option maxHeartbeats 4000000 in
set_option maxRecDepth 100000 in
theorem w_F_xX9_advance_54 {p : Program} {l : Launch} {e : Env} {s : State} {m : MethodId} {args : Array Value} {below : List Frame} {meth : Method} {c : Code} {D : va_G} {C : Nat → ClassId} {A adK adV : Nat → Nat} (hA : apA A 60) (cx : Cxx D C adK adV (fxA A 60) p s m args meth c cX9_advance 2 RX9 none) {res : St} : ∀ (x1 : Int32) (σ : St) (H : Heap) (locs : List Loc) (ls : Array Slot), F_xX9_advance_54 x1 σ = some res → lv_has ls 2 [(0, .ref (A 1)), (1, .int x1)] → va_P D vwCl (wX A C σ) H → va_S (fxA A 60) s.heap H locs → W p l e rm_X9_advance s m args below meth c H locs 0 0 (MQ below (Qcx D (wX A C) (fxA A 60) none res) args s 0 0 (fxA A 60)) (F0 m 54 ls []) := by
  obtain ⟨hx, hb, hml, hown, hts, hK, hr, hlk, hZ⟩ := id cx
  intro x1 σ H locs ls hf hl hP hS
  refine lv_aload_n hx hb dX9_advance_54 rfl (lv_at hl 0 rfl) ?_
  refine lv_aload_n hx hb dX9_advance_55 rfl (lv_at hl 0 rfl) ?_
  refine gX_1_2 hx hb hts hown hK hP (v := (σ.1 1)) rfl (hts _ kw_231) dX9_advance_56 ?_
  refine pX_1_4 hx hb hts hown hK hP hA hS (hts _ kw_237) dX9_advance_59 (fun H locs hP hS => ?_)
  refine lv_iload_n hx hb dX9_advance_62 rfl (lv_at hl 1 rfl) ?_
  refine lv_iconst (v := (-1)) hx hb dX9_advance_63 (by decide) ?_
  refine lv_icmp_ne (tgt := 75) hx hb dX9_advance_64 (by decide) (fun c1 => ?_) (fun c1 => ?_)
  · have hf := (if_neg c1).symm.trans hf
    refine lv_iload_n hx hb dX9_advance_75 rfl (lv_at hl 1 rfl) ?_
    have hP : va_P D vwCl (wX A C (sI σ 3 (σ.1 1))) H := hP
    obtain ⟨⟨r2, σ_r2⟩, h_r2, hf⟩ := bd_some hf
    refine cx_S (As := [.int x1]) (rest := []) cx (ct_xX9_isLetter l D C A adK adV hA h_r2) (cw_X9_41 hts ⟨Nat.le_of_ble_eq_true rfl, Nat.le_of_ble_eq_true rfl⟩) hP hS rfl hl.1 rfl (Nat.le_of_ble_eq_true rfl) dX9_advance_76 ⟨Nat.zero_le _, Nat.zero_le _⟩ (fun H locs hP hS => ?_)
    refine lv_if_eq (tgt := 89) hx hb dX9_advance_79 (by decide) (fun c3 => ?_) (fun c3 => ?_)
    · have hf := (if_pos c3).symm.trans hf
      refine lv_iload_n hx hb dX9_advance_89 rfl (lv_at hl 1 rfl) ?_
      obtain ⟨⟨r4, σ_r4⟩, h_r4, hf⟩ := bd_some hf
      refine cx_S (As := [.int x1]) (rest := []) cx (ct_xX9_isDigit l D C A adK adV hA h_r4) (cw_X9_48 hts ⟨Nat.le_of_ble_eq_true rfl, Nat.le_of_ble_eq_true rfl⟩) hP hS rfl hl.1 rfl (Nat.le_of_ble_eq_true rfl) dX9_advance_90 ⟨Nat.zero_le _, Nat.zero_le _⟩ (fun H locs hP hS => ?_)
      refine lv_if_eq (tgt := 103) hx hb dX9_advance_93 (by decide) (fun c5 => ?_) (fun c5 => ?_)
      · have hf := (if_pos c5).symm.trans hf
        refine lv_aload_n hx hb dX9_advance_103 rfl (lv_at hl 0 rfl) ?_
        refine lv_iload_n hx hb dX9_advance_104 rfl (lv_at hl 1 rfl) ?_
        refine lv_bipush (v := 58) hx hb dX9_advance_105 (by decide) ?_
        refine lv_icmp_eq (tgt := 128) hx hb dX9_advance_107 (by decide) (fun c6 => ?_) (fun c6 => ?_)
        · have hf := (if_pos c6).symm.trans hf
          exact w_F_xX9_advance_128 hA cx _ _ _ _ _ hf (lv_sub hl [0, 1] rfl) hP hS
        · have hf := (if_neg c6).symm.trans hf
          refine lv_iload_n hx hb dX9_advance_110 rfl (lv_at hl 1 rfl) ?_
          refine lv_bipush (v := 59) hx hb dX9_advance_111 (by decide) ?_
          refine lv_icmp_eq (tgt := 128) hx hb dX9_advance_113 (by decide) (fun c7 => ?_) (fun c7 => ?_)
          · have hf := (if_pos c7).symm.trans hf
            exact w_F_xX9_advance_128 hA cx _ _ _ _ _ hf (lv_sub hl [0, 1] rfl) hP hS
          · have hf := (if_neg c7).symm.trans hf
            refine lv_iload_n hx hb dX9_advance_116 rfl (lv_at hl 1 rfl) ?_
            refine lv_bipush (v := 61) hx hb dX9_advance_117 (by decide) ?_
            refine lv_icmp_eq (tgt := 128) hx hb dX9_advance_119 (by decide) (fun c8 => ?_) (fun c8 => ?_)
            · have hf := (if_pos c8).symm.trans hf
              exact w_F_xX9_advance_128 hA cx _ _ _ _ _ hf (lv_sub hl [0, 1] rfl) hP hS
            · have hf := (if_neg c8).symm.trans hf
              refine lv_iload_n hx hb dX9_advance_122 rfl (lv_at hl 1 rfl) ?_
              refine lv_bipush (v := 45) hx hb dX9_advance_123 (by decide) ?_
              refine lv_icmp_ne (tgt := 132) hx hb dX9_advance_125 (by decide) (fun c9 => ?_) (fun c9 => ?_)
              · have hf := (if_neg c9).symm.trans hf
                refine lv_iconst (v := 3) hx hb dX9_advance_132 (by decide) ?_
                refine pX_1_3 hx hb hts hown hK hP hA hS (hts _ kw_238) dX9_advance_133 (fun H locs hP hS => ?_)
                refine lv_aload_n hx hb dX9_advance_136 rfl (lv_at hl 0 rfl) ?_
                refine lv_dup hx hb dX9_advance_137 rfl ?_
                refine gX_1_2 hx hb hts hown hK hP (v := (σ_r4.1 1)) rfl (hts _ kw_231) dX9_advance_138 ?_
                refine lv_iconst (v := 1) hx hb dX9_advance_141 (by decide) ?_
                refine lv_iadd hx hb dX9_advance_142 ?_
                refine pX_1_2 hx hb hts hown hK hP hA hS (hts _ kw_231) dX9_advance_143 (fun H locs hP hS => ?_)
                have hP : va_P D vwCl (wX A C (sI (sI σ_r4 1 ((σ_r4.1 1) + 1)) 2 3)) H := hP
                exact cx_vret cx hP hS hf dX9_advance_146
              · have hf := (if_pos c9).symm.trans hf
                exact w_F_xX9_advance_128 hA cx _ _ _ _ _ hf (lv_sub hl [0, 1] rfl) hP hS
      · have hf := (if_neg c5).symm.trans hf
        refine lv_aload_n hx hb dX9_advance_96 rfl (lv_at hl 0 rfl) ?_
        obtain ⟨σ_r10, h_r10, hf⟩ := bv_some hf
        refine cx_V (As := []) (rest := []) cx (ct_xX9_readNumber l D C A adK adV hA h_r10) (cw_X9_51 hts ⟨Nat.le_of_ble_eq_true rfl, Nat.le_of_ble_eq_true rfl⟩) (va_recv hK hP (ci := 9) (q0 := 1) rfl (wX_1 A C _)) hP hS rfl hl.1 rfl (Nat.le_of_ble_eq_true rfl) dX9_advance_97 ⟨Nat.zero_le _, Nat.zero_le _⟩ (fun H locs hP hS => ?_)
        refine lv_goto (tgt := 146) hx hb dX9_advance_100 (by decide) ?_
        exact cx_vret cx hP hS hf dX9_advance_146
    · have hf := (if_neg c3).symm.trans hf
      refine lv_aload_n hx hb dX9_advance_82 rfl (lv_at hl 0 rfl) ?_
      obtain ⟨σ_r11, h_r11, hf⟩ := bv_some hf
      refine cx_V (As := []) (rest := []) cx (ct_xX9_readWord l D C A adK adV hA h_r11) (cw_X9_45 hts ⟨Nat.le_of_ble_eq_true rfl, Nat.le_of_ble_eq_true rfl⟩) (va_recv hK hP (ci := 9) (q0 := 1) rfl (wX_1 A C _)) hP hS rfl hl.1 rfl (Nat.le_of_ble_eq_true rfl) dX9_advance_83 ⟨Nat.zero_le _, Nat.zero_le _⟩ (fun H locs hP hS => ?_)
      refine lv_goto (tgt := 146) hx hb dX9_advance_86 (by decide) ?_
      exact cx_vret cx hP hS hf dX9_advance_146
  · have hf := (if_pos c1).symm.trans hf
    refine lv_aload_n hx hb dX9_advance_67 rfl (lv_at hl 0 rfl) ?_
    refine lv_iconst (v := 0) hx hb dX9_advance_68 (by decide) ?_
    refine pX_1_3 hx hb hts hown hK hP hA hS (hts _ kw_238) dX9_advance_69 (fun H locs hP hS => ?_)
    refine lv_goto (tgt := 146) hx hb dX9_advance_72 (by decide) ?_
    have hP : va_P D vwCl (wX A C (sI (sI σ 2 0) 3 (σ.1 1))) H := hP
    exact cx_vret cx hP hS hf dX9_advance_146
set_option maxHeartbeats 4000000 in
set_option maxRecDepth 100000 in
theorem w_F_xX9_advance_9 {p : Program} {l : Launch} {e : Env} {s : State} {m : MethodId} {args : Array Value} {below : List Frame} {meth : Method} {c : Code} {D : va_G} {C : Nat → ClassId} {A adK adV : Nat → Nat} (hA : apA A 60) (cx : Cxx D C adK adV (fxA A 60) p s m args meth c cX9_advance 2 RX9 none) {res : St} : ∀ (n : Nat), ∀ (x1 : Int32) (σ : St) (H : Heap) (locs : List Loc) (ls : Array Slot), F_xX9_advance_9 n x1 σ = some res → lv_has ls 2 [(0, .ref (A 1)), (1, .int x1)] → va_P D vwCl (wX A C σ) H → va_S (fxA A 60) s.heap H locs → W p l e rm_X9_advance s m args below meth c H locs 0 0 (MQ below (Qcx D (wX A C) (fxA A 60) none res) args s 0 0 (fxA A 60)) (F0 m 9 ls []) := by
  obtain ⟨hx, hb, hml, hown, hts, hK, hr, hlk, hZ⟩ := id cx
  intro n
  induction n with
  | zero =>
    intro x1 σ H locs ls hf hl hP hS
    exact absurd (show (none : Option St) = some res from hf) (by intro h; cases h)
  | succ n ih =>
    intro x1 σ H locs ls hf hl hP hS
    refine lv_aload_n hx hb dX9_advance_9 rfl (lv_at hl 0 rfl) ?_
    refine gX_1_2 hx hb hts hown hK hP (v := (σ.1 1)) rfl (hts _ kw_231) dX9_advance_10 ?_
    refine lv_aload_n hx hb dX9_advance_13 rfl (lv_at hl 0 rfl) ?_
    refine gX_1_1 hx hb hts hown hK hP (v := (σ.1 0)) rfl (hts _ kw_197) dX9_advance_14 ?_
    refine lv_icmp_ge (tgt := 54) hx hb dX9_advance_17 (by decide) (fun c13 => ?_) (fun c13 => ?_)
    · have hf := (if_pos c13).symm.trans hf
      exact w_F_xX9_advance_54 hA cx _ _ _ _ _ hf (lv_sub hl [0, 1] rfl) hP hS
    · have hf := (if_neg c13).symm.trans hf
      refine lv_iload_n hx hb dX9_advance_20 rfl (lv_at hl 1 rfl) ?_
      refine lv_bipush (v := 32) hx hb dX9_advance_21 (by decide) ?_
      refine lv_icmp_eq (tgt := 32) hx hb dX9_advance_23 (by decide) (fun c14 => ?_) (fun c14 => ?_)
      · have hf := (if_pos c14).symm.trans hf
        exact w_F_xX9_advance_32 hA cx ih _ _ _ _ hf (lv_sub hl [0] rfl) hP hS
      · have hf := (if_neg c14).symm.trans hf
        refine lv_iload_n hx hb dX9_advance_26 rfl (lv_at hl 1 rfl) ?_
        refine lv_bipush (v := 10) hx hb dX9_advance_27 (by decide) ?_
        refine lv_icmp_ne (tgt := 54) hx hb dX9_advance_29 (by decide) (fun c15 => ?_) (fun c15 => ?_)
        · have hf := (if_neg c15).symm.trans hf
          exact w_F_xX9_advance_54 hA cx _ _ _ _ _ hf (lv_sub hl [0, 1] rfl) hP hS
        · have hf := (if_pos c15).symm.trans hf
          exact w_F_xX9_advance_32 hA cx ih _ _ _ _ hf (lv_sub hl [0] rfl) hP hS
set_option maxHeartbeats 4000000 in
set_option maxRecDepth 100000 in
theorem ct_xX9_advance (l : Launch) (D : va_G) (C : Nat → ClassId) (A adK adV : Nat → Nat) (hA : apA A 60)  {σ : St} {res : St} (hf : F_xX9_advance σ = some res) : Met l yX9_advance (Cond.code yX9_advance cX9_advance 2 none :: wsL_law) rm_X9_advance (Pcx D C (wX A C) adK adV (fxA A 60) [.ref (A 1)] σ) (Qcx D (wX A C) (fxA A 60) none res) 0 0 (fxA A 60) := by
  refine Met.ofW (cc := cX9_advance) (maxL := 2) (ret := none) (by decide) rfl ?_
  intro p e s m args below meth c s₁ B hml hv
  obtain ⟨rfl, hP, hK, hZ⟩ := hv
  have cx : Cxx D C adK adV (fxA A 60) p s m _ meth c cX9_advance 2 RX9 none := ⟨B.exec, B.bytes, hml, findClass_of_methodNamed B.named, fun w h => atoms_spec (ws := Cond.code yX9_advance cX9_advance 2 none :: wsL_law) B.pre w (List.mem_cons_of_mem _ h), hK, B.returns, B.notSynchronized, hZ⟩
  obtain ⟨hx, hb, -, hown, hts, -, hr, hlk, -⟩ := id cx
  have hS : va_S (fxA A 60) s.heap s.heap [] := va_S.rf
  have hl := lv_entry ([.ref (A 1)]) (n := 2) (Nat.le_of_ble_eq_true rfl)
  rw [lg_entry_eq]
  generalize (lg_sl ([.ref (A 1)]) ++ List.replicate (2 - (lg_sl ([.ref (A 1)])).length) Slot.unset).toArray = ls at hl ⊢
  have hl : lv_has ls 2 [(0, .ref (A 1))] := hl
  show W p l e rm_X9_advance s m _ below meth c s.heap [] 0 0 _ _
  refine lv_aload_n hx hb dX9_advance_0 rfl (lv_at hl 0 rfl) ?_
  refine lv_aload_n hx hb dX9_advance_1 rfl (lv_at hl 0 rfl) ?_
  refine gX_1_2 hx hb hts hown hK hP (v := (σ.1 1)) rfl (hts _ kw_231) dX9_advance_2 ?_
  obtain ⟨⟨r16, σ_r16⟩, h_r16, hf⟩ := bd_some hf
  refine cx_V (As := [.int (σ.1 1)]) (rest := []) cx (ct_xX9_byteAt l D C A adK adV hA h_r16) (cw_X9_31 hts ⟨Nat.le_of_ble_eq_true rfl, Nat.le_of_ble_eq_true rfl⟩) (va_recv hK hP (ci := 9) (q0 := 1) rfl (wX_1 A C _)) hP hS rfl hl.1 rfl (Nat.le_of_ble_eq_true rfl) dX9_advance_5 ⟨Nat.zero_le _, Nat.zero_le _⟩ (fun H locs hP hS => ?_)
  refine lv_istore_n (lv' := [(1, .int r16), (0, .ref (A 1))]) hx hb dX9_advance_8 rfl hl (by decide) rfl (fun ls hl => ?_)
  exact w_F_xX9_advance_9 hA cx FU _ _ _ _ _ hf (lv_sub hl [1, 0] rfl) hP hS
set_option maxHeartbeats 4000000 in
set_option maxRecDepth 100000 in
theorem ct_xX1_addTrack (l : Launch) (D : va_G) (C : Nat → ClassId) (A adK adV : Nat → Nat) (hA : apA A 60) {x1 : Int32} {x2 : Int32} {σ : St} {res : St} (hf : F_xX1_addTrack x1 x2 σ = some res) : Met l yX1_addTrack (Cond.code yX1_addTrack cX1_addTrack 3 none :: wsL_law) rm_X1_addTrack (Pcx D C (wX A C) adK adV (fxA A 60) [.ref (A 7), .int x1, .int x2] σ) (Qcx D (wX A C) (fxA A 60) none res) 0 0 (fxA A 60) := by
  refine Met.ofW (cc := cX1_addTrack) (maxL := 3) (ret := none) (by decide) rfl ?_
  intro p e s m args below meth c s₁ B hml hv
  obtain ⟨rfl, hP, hK, hZ⟩ := hv
  have cx : Cxx D C adK adV (fxA A 60) p s m _ meth c cX1_addTrack 3 RX1 none := ⟨B.exec, B.bytes, hml, findClass_of_methodNamed B.named, fun w h => atoms_spec (ws := Cond.code yX1_addTrack cX1_addTrack 3 none :: wsL_law) B.pre w (List.mem_cons_of_mem _ h), hK, B.returns, B.notSynchronized, hZ⟩
  obtain ⟨hx, hb, -, hown, hts, -, hr, hlk, -⟩ := id cx
  have hS : va_S (fxA A 60) s.heap s.heap [] := va_S.rf
  have hl := lv_entry ([.ref (A 7), .int x1, .int x2]) (n := 3) (Nat.le_of_ble_eq_true rfl)
  rw [lg_entry_eq]
  generalize (lg_sl ([.ref (A 7), .int x1, .int x2]) ++ List.replicate (3 - (lg_sl ([.ref (A 7), .int x1, .int x2])).length) Slot.unset).toArray = ls at hl ⊢
  have hl : lv_has ls 3 [(0, .ref (A 7)), (1, .int x1), (2, .int x2)] := hl
  show W p l e rm_X1_addTrack s m _ below meth c s.heap [] 0 0 _ _
  refine lv_aload_n hx hb dX1_addTrack_0 rfl (lv_at hl 0 rfl) ?_
  refine gX_7_1 hx hb hts hown hK hP (v := (σ.1 10)) rfl (hts _ kw_67) dX1_addTrack_1 ?_
  refine lv_if_lt (tgt := 45) hx hb dX1_addTrack_4 (by decide) (fun c1 => ?_) (fun c1 => ?_)
  · have hf := (if_pos c1).symm.trans hf
    exact cx_vret cx hP hS hf dX1_addTrack_45
  · have hf := (if_neg c1).symm.trans hf
    refine lv_aload_n hx hb dX1_addTrack_7 rfl (lv_at hl 0 rfl) ?_
    refine gX_7_1 hx hb hts hown hK hP (v := (σ.1 10)) rfl (hts _ kw_67) dX1_addTrack_8 ?_
    refine lv_iconst (v := 4) hx hb dX1_addTrack_11 (by decide) ?_
    refine lv_icmp_ge (tgt := 45) hx hb dX1_addTrack_12 (by decide) (fun c2 => ?_) (fun c2 => ?_)
    · have hf := (if_pos c2).symm.trans hf
      exact cx_vret cx hP hS hf dX1_addTrack_45
    · have hf := (if_neg c2).symm.trans hf
      refine lv_aload_n hx hb dX1_addTrack_15 rfl (lv_at hl 0 rfl) ?_
      refine gX_7_2 hx hb hts hown hK hP (hts _ kw_64) dX1_addTrack_16 ?_
      refine lv_aload_n hx hb dX1_addTrack_19 rfl (lv_at hl 0 rfl) ?_
      refine gX_7_1 hx hb hts hown hK hP (v := (σ.1 10)) rfl (hts _ kw_67) dX1_addTrack_20 ?_
      refine lv_iload_n hx hb dX1_addTrack_23 rfl (lv_at hl 1 rfl) ?_
      obtain ⟨z3, hf⟩ := gd_some hf
      refine pX_a8 hx hb hK hP hA hS (ib_in z3) dX1_addTrack_24 (fun H locs hP hS => ?_)
      refine lv_aload_n hx hb dX1_addTrack_25 rfl (lv_at hl 0 rfl) ?_
      refine gX_7_3 hx hb hts hown hK hP (hts _ kw_65) dX1_addTrack_26 ?_
      refine lv_aload_n hx hb dX1_addTrack_29 rfl (lv_at hl 0 rfl) ?_
      refine gX_7_1 hx hb hts hown hK hP (v := (σ.1 10)) rfl (hts _ kw_67) dX1_addTrack_30 ?_
      refine lv_iload_n hx hb dX1_addTrack_33 rfl (lv_at hl 2 rfl) ?_
      refine pX_a9 hx hb hK hP hA hS (ib_in z3) dX1_addTrack_34 (fun H locs hP hS => ?_)
      refine lv_aload_n hx hb dX1_addTrack_35 rfl (lv_at hl 0 rfl) ?_
      refine lv_dup hx hb dX1_addTrack_36 rfl ?_
      refine gX_7_1 hx hb hts hown hK hP (v := (σ.1 10)) rfl (hts _ kw_67) dX1_addTrack_37 ?_
      refine lv_iconst (v := 1) hx hb dX1_addTrack_40 (by decide) ?_
      refine lv_iadd hx hb dX1_addTrack_41 ?_
      refine pX_7_1 hx hb hts hown hK hP hA hS (hts _ kw_67) dX1_addTrack_42 (fun H locs hP hS => ?_)
      have hP : va_P D vwCl (wX A C (sA (sA (sI σ 10 ((σ.1 10) + 1)) 8 (upd (σ.2.1 8) (σ.1 10).toNatClampNeg x1)) 9 (upd (σ.2.1 9) (σ.1 10).toNatClampNeg x2))) H := hP
      exact cx_vret cx hP hS hf dX1_addTrack_45
set_option maxHeartbeats 4000000 in
set_option maxRecDepth 100000 in
theorem ct_xX9_fail (l : Launch) (D : va_G) (C : Nat → ClassId) (A adK adV : Nat → Nat) (hA : apA A 60) {x1 : Int32} {x2 : Int32} {σ : St} {res : (Int32 × St)} (hf : F_xX9_fail x1 x2 σ = some res) : Met l yX9_fail (Cond.code yX9_fail cX9_fail 3 (some .boolean) :: wsL_law) rm_X9_fail (Pcx D C (wX A C) adK adV (fxA A 60) [.ref (A 1), .int x1, .int x2] σ) (Qcx D (wX A C) (fxA A 60) (some (.int res.1)) res.2) 0 0 (fxA A 60) := by
  refine Met.ofW (cc := cX9_fail) (maxL := 3) (ret := (some .boolean)) (by decide) rfl ?_
  intro p e s m args below meth c s₁ B hml hv
  obtain ⟨rfl, hP, hK, hZ⟩ := hv
  have cx : Cxx D C adK adV (fxA A 60) p s m _ meth c cX9_fail 3 RX9 (some .boolean) := ⟨B.exec, B.bytes, hml, findClass_of_methodNamed B.named, fun w h => atoms_spec (ws := Cond.code yX9_fail cX9_fail 3 (some .boolean) :: wsL_law) B.pre w (List.mem_cons_of_mem _ h), hK, B.returns, B.notSynchronized, hZ⟩
  obtain ⟨hx, hb, -, hown, hts, -, hr, hlk, -⟩ := id cx
  have hS : va_S (fxA A 60) s.heap s.heap [] := va_S.rf
  have hl := lv_entry ([.ref (A 1), .int x1, .int x2]) (n := 3) (Nat.le_of_ble_eq_true rfl)
  rw [lg_entry_eq]
  generalize (lg_sl ([.ref (A 1), .int x1, .int x2]) ++ List.replicate (3 - (lg_sl ([.ref (A 1), .int x1, .int x2])).length) Slot.unset).toArray = ls at hl ⊢
  have hl : lv_has ls 3 [(0, .ref (A 1)), (1, .int x1), (2, .int x2)] := hl
  show W p l e rm_X9_fail s m _ below meth c s.heap [] 0 0 _ _
  refine lv_aload_n hx hb dX9_fail_0 rfl (lv_at hl 0 rfl) ?_
  refine lv_iload_n hx hb dX9_fail_1 rfl (lv_at hl 1 rfl) ?_
  refine pX_1_6 hx hb hts hown hK hP hA hS (hts _ kw_232) dX9_fail_2 (fun H locs hP hS => ?_)
  refine lv_aload_n hx hb dX9_fail_5 rfl (lv_at hl 0 rfl) ?_
  refine lv_iload_n hx hb dX9_fail_6 rfl (lv_at hl 2 rfl) ?_
  refine pX_1_7 hx hb hts hown hK hP hA hS (hts _ kw_58) dX9_fail_7 (fun H locs hP hS => ?_)
  refine lv_iconst (v := 0) hx hb dX9_fail_10 (by decide) ?_
  have hP : va_P D vwCl (wX A C (sI (sI σ 5 x1) 6 x2)) H := hP
  exact cx_zret cx rfl hP hS hf dX9_fail_11
set_option maxHeartbeats 4000000 in
set_option maxRecDepth 100000 in
theorem ct_xX9_pass (l : Launch) (D : va_G) (C : Nat → ClassId) (A adK adV : Nat → Nat) (hA : apA A 60) {x1 : Int32} {σ : St} {res : (Int32 × St)} (hf : F_xX9_pass x1 σ = some res) : Met l yX9_pass (Cond.code yX9_pass cX9_pass 2 (some .boolean) :: wsL_law) rm_X9_pass (Pcx D C (wX A C) adK adV (fxA A 60) [.ref (A 1), .int x1] σ) (Qcx D (wX A C) (fxA A 60) (some (.int res.1)) res.2) 0 0 (fxA A 60) := by
  refine Met.ofW (cc := cX9_pass) (maxL := 2) (ret := (some .boolean)) (by decide) rfl ?_
  intro p e s m args below meth c s₁ B hml hv
  obtain ⟨rfl, hP, hK, hZ⟩ := hv
  have cx : Cxx D C adK adV (fxA A 60) p s m _ meth c cX9_pass 2 RX9 (some .boolean) := ⟨B.exec, B.bytes, hml, findClass_of_methodNamed B.named, fun w h => atoms_spec (ws := Cond.code yX9_pass cX9_pass 2 (some .boolean) :: wsL_law) B.pre w (List.mem_cons_of_mem _ h), hK, B.returns, B.notSynchronized, hZ⟩
  obtain ⟨hx, hb, -, hown, hts, -, hr, hlk, -⟩ := id cx
  have hS : va_S (fxA A 60) s.heap s.heap [] := va_S.rf
  have hl := lv_entry ([.ref (A 1), .int x1]) (n := 2) (Nat.le_of_ble_eq_true rfl)
  rw [lg_entry_eq]
  generalize (lg_sl ([.ref (A 1), .int x1]) ++ List.replicate (2 - (lg_sl ([.ref (A 1), .int x1])).length) Slot.unset).toArray = ls at hl ⊢
  have hl : lv_has ls 2 [(0, .ref (A 1)), (1, .int x1)] := hl
  show W p l e rm_X9_pass s m _ below meth c s.heap [] 0 0 _ _
  refine lv_aload_n hx hb dX9_pass_0 rfl (lv_at hl 0 rfl) ?_
  refine gX_1_3 hx hb hts hown hK hP (v := (σ.1 2)) rfl (hts _ kw_238) dX9_pass_1 ?_
  refine lv_iload_n hx hb dX9_pass_4 rfl (lv_at hl 1 rfl) ?_
  refine lv_icmp_eq (tgt := 18) hx hb dX9_pass_5 (by decide) (fun c1 => ?_) (fun c1 => ?_)
  · have hf := (if_pos c1).symm.trans hf
    refine lv_aload_n hx hb dX9_pass_18 rfl (lv_at hl 0 rfl) ?_
    obtain ⟨σ_r2, h_r2, hf⟩ := bv_some hf
    refine cx_V (As := []) (rest := []) cx (ct_xX9_advance l D C A adK adV hA h_r2) (cw_X9_28 hts ⟨Nat.le_of_ble_eq_true rfl, Nat.le_of_ble_eq_true rfl⟩) (va_recv hK hP (ci := 9) (q0 := 1) rfl (wX_1 A C _)) hP hS rfl hl.1 rfl (Nat.le_of_ble_eq_true rfl) dX9_pass_19 ⟨Nat.zero_le _, Nat.zero_le _⟩ (fun H locs hP hS => ?_)
    refine lv_iconst (v := 1) hx hb dX9_pass_22 (by decide) ?_
    exact cx_zret cx rfl hP hS hf dX9_pass_23
  · have hf := (if_neg c1).symm.trans hf
    refine lv_aload_n hx hb dX9_pass_8 rfl (lv_at hl 0 rfl) ?_
    refine lv_iconst (v := 1) hx hb dX9_pass_9 (by decide) ?_
    refine lv_aload_n hx hb dX9_pass_10 rfl (lv_at hl 0 rfl) ?_
    refine gX_1_4 hx hb hts hown hK hP (v := (σ.1 3)) rfl (hts _ kw_237) dX9_pass_11 ?_
    obtain ⟨⟨r3, σ_r3⟩, h_r3, hf⟩ := bd_some hf
    refine cx_V (As := [.int 1, .int (σ.1 3)]) (rest := []) cx (ct_xX9_fail l D C A adK adV hA h_r3) (cw_X9_70 hts ⟨Nat.le_of_ble_eq_true rfl, Nat.le_of_ble_eq_true rfl⟩) (va_recv hK hP (ci := 9) (q0 := 1) rfl (wX_1 A C _)) hP hS rfl hl.1 rfl (Nat.le_of_ble_eq_true rfl) dX9_pass_14 ⟨Nat.zero_le _, Nat.zero_le _⟩ (fun H locs hP hS => ?_)
    obtain ⟨z4, hf⟩ := gd_some hf
    exact cx_zret cx (nb_ok z4) hP hS hf dX9_pass_17
set_option maxHeartbeats 4000000 in
set_option maxRecDepth 100000 in
theorem w_F_xX2_numberIsWithin_49 {p : Program} {l : Launch} {e : Env} {s : State} {m : MethodId} {args : Array Value} {below : List Frame} {meth : Method} {c : Code} {D : va_G} {C : Nat → ClassId} {A adK adV : Nat → Nat} (hA : apA A 60) (cx : Cxx D C adK adV (fxA A 60) p s m args meth c cX2_numberIsWithin 3 RX2 (some .boolean)) {res : (Int32 × St)} : ∀ (σ : St) (H : Heap) (locs : List Loc) (ls : Array Slot), F_xX2_numberIsWithin_49 σ = some res → lv_has ls 3 [(0, .ref (A 6))] → va_P D vwCl (wX A C σ) H → va_S (fxA A 60) s.heap H locs → W p l e rm_X2_numberIsWithin s m args below meth c H locs 0 0 (MQ below (Qcx D (wX A C) (fxA A 60) (some (.int res.1)) res.2) args s 0 0 (fxA A 60)) (F0 m 49 ls []) := by
  obtain ⟨hx, hb, hml, hown, hts, hK, hr, hlk, hZ⟩ := id cx
  intro σ H locs ls hf hl hP hS
  refine lv_aload_n hx hb dX2_numberIsWithin_49 rfl (lv_at hl 0 rfl) ?_
  refine gX_6_0 hx hb hts hown hK hP (hts _ kw_74) dX2_numberIsWithin_50 ?_
  refine lv_iconst (v := 2) hx hb dX2_numberIsWithin_53 (by decide) ?_
  refine lv_aload_n hx hb dX2_numberIsWithin_54 rfl (lv_at hl 0 rfl) ?_
  refine gX_6_0 hx hb hts hown hK hP (hts _ kw_74) dX2_numberIsWithin_55 ?_
  refine gX_1_4 hx hb hts hown hK hP (v := (σ.1 3)) rfl (hts _ kw_265) dX2_numberIsWithin_58 ?_
  obtain ⟨⟨r1, σ_r1⟩, h_r1, hf⟩ := bd_some hf
  refine cx_V (As := [.int 2, .int (σ.1 3)]) (rest := []) cx (ct_xX9_fail l D C A adK adV hA h_r1) (cw_X2_50 hts ⟨Nat.le_of_ble_eq_true rfl, Nat.le_of_ble_eq_true rfl⟩) (va_recv hK hP (ci := 9) (q0 := 1) rfl (wX_1 A C _)) hP hS rfl hl.1 rfl (Nat.le_of_ble_eq_true rfl) dX2_numberIsWithin_61 ⟨Nat.zero_le _, Nat.zero_le _⟩ (fun H locs hP hS => ?_)
  obtain ⟨z2, hf⟩ := gd_some hf
  exact cx_zret cx (nb_ok z2) hP hS hf dX2_numberIsWithin_64
set_option maxHeartbeats 4000000 in
set_option maxRecDepth 100000 in
theorem ct_xX2_numberIsWithin (l : Launch) (D : va_G) (C : Nat → ClassId) (A adK adV : Nat → Nat) (hA : apA A 60) {x1 : Int32} {x2 : Int32} {σ : St} {res : (Int32 × St)} (hf : F_xX2_numberIsWithin x1 x2 σ = some res) : Met l yX2_numberIsWithin (Cond.code yX2_numberIsWithin cX2_numberIsWithin 3 (some .boolean) :: wsL_law) rm_X2_numberIsWithin (Pcx D C (wX A C) adK adV (fxA A 60) [.ref (A 6), .int x1, .int x2] σ) (Qcx D (wX A C) (fxA A 60) (some (.int res.1)) res.2) 0 0 (fxA A 60) := by
  refine Met.ofW (cc := cX2_numberIsWithin) (maxL := 3) (ret := (some .boolean)) (by decide) rfl ?_
  intro p e s m args below meth c s₁ B hml hv
  obtain ⟨rfl, hP, hK, hZ⟩ := hv
  have cx : Cxx D C adK adV (fxA A 60) p s m _ meth c cX2_numberIsWithin 3 RX2 (some .boolean) := ⟨B.exec, B.bytes, hml, findClass_of_methodNamed B.named, fun w h => atoms_spec (ws := Cond.code yX2_numberIsWithin cX2_numberIsWithin 3 (some .boolean) :: wsL_law) B.pre w (List.mem_cons_of_mem _ h), hK, B.returns, B.notSynchronized, hZ⟩
  obtain ⟨hx, hb, -, hown, hts, -, hr, hlk, -⟩ := id cx
  have hS : va_S (fxA A 60) s.heap s.heap [] := va_S.rf
  have hl := lv_entry ([.ref (A 6), .int x1, .int x2]) (n := 3) (Nat.le_of_ble_eq_true rfl)
  rw [lg_entry_eq]
  generalize (lg_sl ([.ref (A 6), .int x1, .int x2]) ++ List.replicate (3 - (lg_sl ([.ref (A 6), .int x1, .int x2])).length) Slot.unset).toArray = ls at hl ⊢
  have hl : lv_has ls 3 [(0, .ref (A 6)), (1, .int x1), (2, .int x2)] := hl
  show W p l e rm_X2_numberIsWithin s m _ below meth c s.heap [] 0 0 _ _
  refine lv_aload_n hx hb dX2_numberIsWithin_0 rfl (lv_at hl 0 rfl) ?_
  refine gX_6_0 hx hb hts hown hK hP (hts _ kw_74) dX2_numberIsWithin_1 ?_
  refine gX_1_3 hx hb hts hown hK hP (v := (σ.1 2)) rfl (hts _ kw_226) dX2_numberIsWithin_4 ?_
  refine lv_iconst (v := 2) hx hb dX2_numberIsWithin_7 (by decide) ?_
  refine lv_icmp_eq (tgt := 27) hx hb dX2_numberIsWithin_8 (by decide) (fun c3 => ?_) (fun c3 => ?_)
  · have hf := (if_pos c3).symm.trans hf
    refine lv_aload_n hx hb dX2_numberIsWithin_27 rfl (lv_at hl 0 rfl) ?_
    refine gX_6_0 hx hb hts hown hK hP (hts _ kw_74) dX2_numberIsWithin_28 ?_
    refine gX_1_5 hx hb hts hown hK hP (v := (σ.1 4)) rfl (hts _ kw_266) dX2_numberIsWithin_31 ?_
    refine lv_iload_n hx hb dX2_numberIsWithin_34 rfl (lv_at hl 1 rfl) ?_
    refine lv_icmp_lt (tgt := 49) hx hb dX2_numberIsWithin_35 (by decide) (fun c4 => ?_) (fun c4 => ?_)
    · have hf := (if_pos c4).symm.trans hf
      exact w_F_xX2_numberIsWithin_49 hA cx _ _ _ _ hf (lv_sub hl [0] rfl) hP hS
    · have hf := (if_neg c4).symm.trans hf
      refine lv_aload_n hx hb dX2_numberIsWithin_38 rfl (lv_at hl 0 rfl) ?_
      refine gX_6_0 hx hb hts hown hK hP (hts _ kw_74) dX2_numberIsWithin_39 ?_
      refine gX_1_5 hx hb hts hown hK hP (v := (σ.1 4)) rfl (hts _ kw_266) dX2_numberIsWithin_42 ?_
      refine lv_iload_n hx hb dX2_numberIsWithin_45 rfl (lv_at hl 2 rfl) ?_
      refine lv_icmp_le (tgt := 65) hx hb dX2_numberIsWithin_46 (by decide) (fun c5 => ?_) (fun c5 => ?_)
      · have hf := (if_pos c5).symm.trans hf
        refine lv_iconst (v := 1) hx hb dX2_numberIsWithin_65 (by decide) ?_
        exact cx_zret cx rfl hP hS hf dX2_numberIsWithin_66
      · have hf := (if_neg c5).symm.trans hf
        exact w_F_xX2_numberIsWithin_49 hA cx _ _ _ _ hf (lv_sub hl [0] rfl) hP hS
  · have hf := (if_neg c3).symm.trans hf
    refine lv_aload_n hx hb dX2_numberIsWithin_11 rfl (lv_at hl 0 rfl) ?_
    refine gX_6_0 hx hb hts hown hK hP (hts _ kw_74) dX2_numberIsWithin_12 ?_
    refine lv_iconst (v := 1) hx hb dX2_numberIsWithin_15 (by decide) ?_
    refine lv_aload_n hx hb dX2_numberIsWithin_16 rfl (lv_at hl 0 rfl) ?_
    refine gX_6_0 hx hb hts hown hK hP (hts _ kw_74) dX2_numberIsWithin_17 ?_
    refine gX_1_4 hx hb hts hown hK hP (v := (σ.1 3)) rfl (hts _ kw_265) dX2_numberIsWithin_20 ?_
    obtain ⟨⟨r6, σ_r6⟩, h_r6, hf⟩ := bd_some hf
    refine cx_V (As := [.int 1, .int (σ.1 3)]) (rest := []) cx (ct_xX9_fail l D C A adK adV hA h_r6) (cw_X2_50 hts ⟨Nat.le_of_ble_eq_true rfl, Nat.le_of_ble_eq_true rfl⟩) (va_recv hK hP (ci := 9) (q0 := 1) rfl (wX_1 A C _)) hP hS rfl hl.1 rfl (Nat.le_of_ble_eq_true rfl) dX2_numberIsWithin_23 ⟨Nat.zero_le _, Nat.zero_le _⟩ (fun H locs hP hS => ?_)
    obtain ⟨z7, hf⟩ := gd_some hf
    exact cx_zret cx (nb_ok z7) hP hS hf dX2_numberIsWithin_26
set_option maxHeartbeats 4000000 in
set_option maxRecDepth 100000 in
theorem ct_xX2_readQuickWords (l : Launch) (D : va_G) (C : Nat → ClassId) (A adK adV : Nat → Nat) (hA : apA A 60)  {σ : St} {res : (Int32 × St)} (hf : F_xX2_readQuickWords σ = some res) : Met l yX2_readQuickWords (Cond.code yX2_readQuickWords cX2_readQuickWords 1 (some .boolean) :: wsL_law) rm_X2_readQuickWords (Pcx D C (wX A C) adK adV (fxA A 60) [.ref (A 6)] σ) (Qcx D (wX A C) (fxA A 60) (some (.int res.1)) res.2) 0 0 (fxA A 60) := by
  refine Met.ofW (cc := cX2_readQuickWords) (maxL := 1) (ret := (some .boolean)) (by decide) rfl ?_
  intro p e s m args below meth c s₁ B hml hv
  obtain ⟨rfl, hP, hK, hZ⟩ := hv
  have cx : Cxx D C adK adV (fxA A 60) p s m _ meth c cX2_readQuickWords 1 RX2 (some .boolean) := ⟨B.exec, B.bytes, hml, findClass_of_methodNamed B.named, fun w h => atoms_spec (ws := Cond.code yX2_readQuickWords cX2_readQuickWords 1 (some .boolean) :: wsL_law) B.pre w (List.mem_cons_of_mem _ h), hK, B.returns, B.notSynchronized, hZ⟩
  obtain ⟨hx, hb, -, hown, hts, -, hr, hlk, -⟩ := id cx
  have hS : va_S (fxA A 60) s.heap s.heap [] := va_S.rf
  have hl := lv_entry ([.ref (A 6)]) (n := 1) (Nat.le_of_ble_eq_true rfl)
  rw [lg_entry_eq]
  generalize (lg_sl ([.ref (A 6)]) ++ List.replicate (1 - (lg_sl ([.ref (A 6)])).length) Slot.unset).toArray = ls at hl ⊢
  have hl : lv_has ls 1 [(0, .ref (A 6))] := hl
  show W p l e rm_X2_readQuickWords s m _ below meth c s.heap [] 0 0 _ _
  refine lv_aload_n hx hb dX2_readQuickWords_0 rfl (lv_at hl 0 rfl) ?_
  refine lv_iconst (v := 2) hx hb dX2_readQuickWords_1 (by decide) ?_
  refine lv_bipush (v := 8) hx hb dX2_readQuickWords_2 (by decide) ?_
  refine lv_aload_n hx hb dX2_readQuickWords_4 rfl (lv_at hl 0 rfl) ?_
  refine gX_6_1 hx hb hts hown hK hP (hts _ kw_73) dX2_readQuickWords_5 ?_
  refine gX_7_0 hx hb hts hown hK hP (v := (σ.1 9)) rfl (hts _ kw_267) dX2_readQuickWords_8 ?_
  refine va_mmin hx hb (hml.trans hl.1.symm) hown (hts _ kw_351) (hts _ kw_352) (hts _ kw_353) (hts _ kw_354) (Nat.le_of_ble_eq_true rfl) (Nat.le_of_ble_eq_true rfl) (Nat.zero_le _) (Nat.zero_le _) dX2_readQuickWords_11 ?_
  obtain ⟨⟨r1, σ_r1⟩, h_r1, hf⟩ := bd_some hf
  refine cx_V (As := [.int 2, .int (if (σ.1 9) < 8 then (σ.1 9) else 8)]) (rest := []) cx (ct_xX2_numberIsWithin l D C A adK adV hA h_r1) (cw_X2_57 hts ⟨Nat.le_of_ble_eq_true rfl, Nat.le_of_ble_eq_true rfl⟩) (va_recv hK hP (ci := 2) (q0 := 6) rfl (wX_6 A C _)) hP hS rfl hl.1 rfl (Nat.le_of_ble_eq_true rfl) dX2_readQuickWords_14 ⟨Nat.zero_le _, Nat.zero_le _⟩ (fun H locs hP hS => ?_)
  refine lv_if_ne (tgt := 22) hx hb dX2_readQuickWords_17 (by decide) (fun c2 => ?_) (fun c2 => ?_)
  · have hf := (if_neg c2).symm.trans hf
    refine lv_aload_n hx hb dX2_readQuickWords_22 rfl (lv_at hl 0 rfl) ?_
    refine gX_6_1 hx hb hts hown hK hP (hts _ kw_73) dX2_readQuickWords_23 ?_
    refine lv_aload_n hx hb dX2_readQuickWords_26 rfl (lv_at hl 0 rfl) ?_
    refine gX_6_0 hx hb hts hown hK hP (hts _ kw_74) dX2_readQuickWords_27 ?_
    refine gX_1_5 hx hb hts hown hK hP (v := (σ_r1.1 4)) rfl (hts _ kw_266) dX2_readQuickWords_30 ?_
    refine lv_aload_n hx hb dX2_readQuickWords_33 rfl (lv_at hl 0 rfl) ?_
    refine gX_6_0 hx hb hts hown hK hP (hts _ kw_74) dX2_readQuickWords_34 ?_
    refine gX_1_5 hx hb hts hown hK hP (v := (σ_r1.1 4)) rfl (hts _ kw_266) dX2_readQuickWords_37 ?_
    obtain ⟨σ_r3, h_r3, hf⟩ := bv_some hf
    refine cx_V (As := [.int (σ_r1.1 4), .int (σ_r1.1 4)]) (rest := []) cx (ct_xX1_addTrack l D C A adK adV hA h_r3) (cw_X2_81 hts ⟨Nat.le_of_ble_eq_true rfl, Nat.le_of_ble_eq_true rfl⟩) (va_recv hK hP (ci := 1) (q0 := 7) rfl (wX_7 A C _)) hP hS rfl hl.1 rfl (Nat.le_of_ble_eq_true rfl) dX2_readQuickWords_40 ⟨Nat.zero_le _, Nat.zero_le _⟩ (fun H locs hP hS => ?_)
    refine lv_aload_n hx hb dX2_readQuickWords_43 rfl (lv_at hl 0 rfl) ?_
    refine gX_6_0 hx hb hts hown hK hP (hts _ kw_74) dX2_readQuickWords_44 ?_
    obtain ⟨σ_r4, h_r4, hf⟩ := bv_some hf
    refine cx_V (As := []) (rest := []) cx (ct_xX9_advance l D C A adK adV hA h_r4) (cw_X2_54 hts ⟨Nat.le_of_ble_eq_true rfl, Nat.le_of_ble_eq_true rfl⟩) (va_recv hK hP (ci := 9) (q0 := 1) rfl (wX_1 A C _)) hP hS rfl hl.1 rfl (Nat.le_of_ble_eq_true rfl) dX2_readQuickWords_47 ⟨Nat.zero_le _, Nat.zero_le _⟩ (fun H locs hP hS => ?_)
    refine lv_aload_n hx hb dX2_readQuickWords_50 rfl (lv_at hl 0 rfl) ?_
    refine gX_6_0 hx hb hts hown hK hP (hts _ kw_74) dX2_readQuickWords_51 ?_
    refine lv_bipush (v := 59) hx hb dX2_readQuickWords_54 (by decide) ?_
    obtain ⟨⟨r5, σ_r5⟩, h_r5, hf⟩ := bd_some hf
    refine cx_V (As := [.int 59]) (rest := []) cx (ct_xX9_pass l D C A adK adV hA h_r5) (cw_X2_65 hts ⟨Nat.le_of_ble_eq_true rfl, Nat.le_of_ble_eq_true rfl⟩) (va_recv hK hP (ci := 9) (q0 := 1) rfl (wX_1 A C _)) hP hS rfl hl.1 rfl (Nat.le_of_ble_eq_true rfl) dX2_readQuickWords_56 ⟨Nat.zero_le _, Nat.zero_le _⟩ (fun H locs hP hS => ?_)
    obtain ⟨z6, hf⟩ := gd_some hf
    exact cx_zret cx (nb_ok z6) hP hS hf dX2_readQuickWords_59
  · have hf := (if_pos c2).symm.trans hf
    refine lv_iconst (v := 0) hx hb dX2_readQuickWords_20 (by decide) ?_
    exact cx_zret cx rfl hP hS hf dX2_readQuickWords_21
set_option maxHeartbeats 4000000 in
set_option maxRecDepth 100000 in
theorem w_F_xX2_readHeads_41 {p : Program} {l : Launch} {e : Env} {s : State} {m : MethodId} {args : Array Value} {below : List Frame} {meth : Method} {c : Code} {D : va_G} {C : Nat → ClassId} {A adK adV : Nat → Nat} (hA : apA A 60) (cx : Cxx D C adK adV (fxA A 60) p s m args meth c cX2_readHeads 2 RX2 (some .boolean)) {res : (Int32 × St)} : ∀ (σ : St) (H : Heap) (locs : List Loc) (ls : Array Slot), F_xX2_readHeads_41 σ = some res → lv_has ls 2 [(0, .ref (A 6))] → va_P D vwCl (wX A C σ) H → va_S (fxA A 60) s.heap H locs → W p l e rm_X2_readHeads s m args below meth c H locs 0 0 (MQ below (Qcx D (wX A C) (fxA A 60) (some (.int res.1)) res.2) args s 0 0 (fxA A 60)) (F0 m 41 ls []) := by
  obtain ⟨hx, hb, hml, hown, hts, hK, hr, hlk, hZ⟩ := id cx
  intro σ H locs ls hf hl hP hS
  refine lv_aload_n hx hb dX2_readHeads_41 rfl (lv_at hl 0 rfl) ?_
  refine gX_6_0 hx hb hts hown hK hP (hts _ kw_74) dX2_readHeads_42 ?_
  refine lv_iconst (v := 2) hx hb dX2_readHeads_45 (by decide) ?_
  refine lv_aload_n hx hb dX2_readHeads_46 rfl (lv_at hl 0 rfl) ?_
  refine gX_6_0 hx hb hts hown hK hP (hts _ kw_74) dX2_readHeads_47 ?_
  refine gX_1_4 hx hb hts hown hK hP (v := (σ.1 3)) rfl (hts _ kw_265) dX2_readHeads_50 ?_
  obtain ⟨⟨r1, σ_r1⟩, h_r1, hf⟩ := bd_some hf
  refine cx_V (As := [.int 2, .int (σ.1 3)]) (rest := []) cx (ct_xX9_fail l D C A adK adV hA h_r1) (cw_X2_50 hts ⟨Nat.le_of_ble_eq_true rfl, Nat.le_of_ble_eq_true rfl⟩) (va_recv hK hP (ci := 9) (q0 := 1) rfl (wX_1 A C _)) hP hS rfl hl.1 rfl (Nat.le_of_ble_eq_true rfl) dX2_readHeads_53 ⟨Nat.zero_le _, Nat.zero_le _⟩ (fun H locs hP hS => ?_)
  obtain ⟨z2, hf⟩ := gd_some hf
  exact cx_zret cx (nb_ok z2) hP hS hf dX2_readHeads_56
set_option maxHeartbeats 4000000 in
set_option maxRecDepth 100000 in
theorem ct_xX2_readHeads (l : Launch) (D : va_G) (C : Nat → ClassId) (A adK adV : Nat → Nat) (hA : apA A 60)  {σ : St} {res : (Int32 × St)} (hf : F_xX2_readHeads σ = some res) : Met l yX2_readHeads (Cond.code yX2_readHeads cX2_readHeads 2 (some .boolean) :: wsL_law) rm_X2_readHeads (Pcx D C (wX A C) adK adV (fxA A 60) [.ref (A 6)] σ) (Qcx D (wX A C) (fxA A 60) (some (.int res.1)) res.2) 0 0 (fxA A 60) := by
  refine Met.ofW (cc := cX2_readHeads) (maxL := 2) (ret := (some .boolean)) (by decide) rfl ?_
  intro p e s m args below meth c s₁ B hml hv
  obtain ⟨rfl, hP, hK, hZ⟩ := hv
  have cx : Cxx D C adK adV (fxA A 60) p s m _ meth c cX2_readHeads 2 RX2 (some .boolean) := ⟨B.exec, B.bytes, hml, findClass_of_methodNamed B.named, fun w h => atoms_spec (ws := Cond.code yX2_readHeads cX2_readHeads 2 (some .boolean) :: wsL_law) B.pre w (List.mem_cons_of_mem _ h), hK, B.returns, B.notSynchronized, hZ⟩
  obtain ⟨hx, hb, -, hown, hts, -, hr, hlk, -⟩ := id cx
  have hS : va_S (fxA A 60) s.heap s.heap [] := va_S.rf
  have hl := lv_entry ([.ref (A 6)]) (n := 2) (Nat.le_of_ble_eq_true rfl)
  rw [lg_entry_eq]
  generalize (lg_sl ([.ref (A 6)]) ++ List.replicate (2 - (lg_sl ([.ref (A 6)])).length) Slot.unset).toArray = ls at hl ⊢
  have hl : lv_has ls 2 [(0, .ref (A 6))] := hl
  show W p l e rm_X2_readHeads s m _ below meth c s.heap [] 0 0 _ _
  refine lv_aload_n hx hb dX2_readHeads_0 rfl (lv_at hl 0 rfl) ?_
  refine lv_iconst (v := 2) hx hb dX2_readHeads_1 (by decide) ?_
  refine lv_iconst (v := 4) hx hb dX2_readHeads_2 (by decide) ?_
  obtain ⟨⟨r3, σ_r3⟩, h_r3, hf⟩ := bd_some hf
  refine cx_V (As := [.int 2, .int 4]) (rest := []) cx (ct_xX2_numberIsWithin l D C A adK adV hA h_r3) (cw_X2_57 hts ⟨Nat.le_of_ble_eq_true rfl, Nat.le_of_ble_eq_true rfl⟩) (va_recv hK hP (ci := 2) (q0 := 6) rfl (wX_6 A C _)) hP hS rfl hl.1 rfl (Nat.le_of_ble_eq_true rfl) dX2_readHeads_3 ⟨Nat.zero_le _, Nat.zero_le _⟩ (fun H locs hP hS => ?_)
  refine lv_if_ne (tgt := 11) hx hb dX2_readHeads_6 (by decide) (fun c4 => ?_) (fun c4 => ?_)
  · have hf := (if_neg c4).symm.trans hf
    refine lv_aload_n hx hb dX2_readHeads_11 rfl (lv_at hl 0 rfl) ?_
    refine gX_6_0 hx hb hts hown hK hP (hts _ kw_74) dX2_readHeads_12 ?_
    refine gX_1_5 hx hb hts hown hK hP (v := (σ_r3.1 4)) rfl (hts _ kw_266) dX2_readHeads_15 ?_
    refine lv_istore_n (lv' := [(1, .int (σ_r3.1 4)), (0, .ref (A 6))]) hx hb dX2_readHeads_18 rfl hl (by decide) rfl (fun ls hl => ?_)
    refine lv_iload_n hx hb dX2_readHeads_19 rfl (lv_at hl 0 rfl) ?_
    refine lv_iconst (v := 2) hx hb dX2_readHeads_20 (by decide) ?_
    refine lv_icmp_lt (tgt := 41) hx hb dX2_readHeads_21 (by decide) (fun c5 => ?_) (fun c5 => ?_)
    · have hf := (if_pos c5).symm.trans hf
      exact w_F_xX2_readHeads_41 hA cx _ _ _ _ hf (lv_sub hl [1] rfl) hP hS
    · have hf := (if_neg c5).symm.trans hf
      refine lv_iload_n hx hb dX2_readHeads_24 rfl (lv_at hl 0 rfl) ?_
      refine lv_iconst (v := 3) hx hb dX2_readHeads_25 (by decide) ?_
      refine lv_icmp_eq (tgt := 41) hx hb dX2_readHeads_26 (by decide) (fun c6 => ?_) (fun c6 => ?_)
      · have hf := (if_pos c6).symm.trans hf
        exact w_F_xX2_readHeads_41 hA cx _ _ _ _ hf (lv_sub hl [1] rfl) hP hS
      · have hf := (if_neg c6).symm.trans hf
        refine lv_aload_n hx hb dX2_readHeads_29 rfl (lv_at hl 1 rfl) ?_
        refine gX_6_1 hx hb hts hown hK hP (hts _ kw_73) dX2_readHeads_30 ?_
        refine gX_7_0 hx hb hts hown hK hP (v := (σ_r3.1 9)) rfl (hts _ kw_267) dX2_readHeads_33 ?_
        refine lv_iload_n hx hb dX2_readHeads_36 rfl (lv_at hl 0 rfl) ?_
        obtain ⟨z7, hf⟩ := gn_some hf
        refine lv_irem hx hb dX2_readHeads_37 z7 ?_
        refine lv_if_eq (tgt := 57) hx hb dX2_readHeads_38 (by decide) (fun c8 => ?_) (fun c8 => ?_)
        · have hf := (if_pos c8).symm.trans hf
          refine lv_aload_n hx hb dX2_readHeads_57 rfl (lv_at hl 1 rfl) ?_
          refine gX_6_1 hx hb hts hown hK hP (hts _ kw_73) dX2_readHeads_58 ?_
          refine lv_aload_n hx hb dX2_readHeads_61 rfl (lv_at hl 1 rfl) ?_
          refine gX_6_1 hx hb hts hown hK hP (hts _ kw_73) dX2_readHeads_62 ?_
          refine gX_7_0 hx hb hts hown hK hP (v := (σ_r3.1 9)) rfl (hts _ kw_267) dX2_readHeads_65 ?_
          refine lv_iload_n hx hb dX2_readHeads_68 rfl (lv_at hl 0 rfl) ?_
          refine lv_idiv hx hb dX2_readHeads_69 z7 ?_
          refine lv_aload_n hx hb dX2_readHeads_70 rfl (lv_at hl 1 rfl) ?_
          refine gX_6_1 hx hb hts hown hK hP (hts _ kw_73) dX2_readHeads_71 ?_
          refine gX_7_0 hx hb hts hown hK hP (v := (σ_r3.1 9)) rfl (hts _ kw_267) dX2_readHeads_74 ?_
          obtain ⟨σ_r9, h_r9, hf⟩ := bv_some hf
          refine cx_V (As := [.int ((σ_r3.1 9) / (σ_r3.1 4)), .int (σ_r3.1 9)]) (rest := []) cx (ct_xX1_addTrack l D C A adK adV hA h_r9) (cw_X2_81 hts ⟨Nat.le_of_ble_eq_true rfl, Nat.le_of_ble_eq_true rfl⟩) (va_recv hK hP (ci := 1) (q0 := 7) rfl (wX_7 A C _)) hP hS rfl hl.1 rfl (Nat.le_of_ble_eq_true rfl) dX2_readHeads_77 ⟨Nat.zero_le _, Nat.zero_le _⟩ (fun H locs hP hS => ?_)
          refine lv_aload_n hx hb dX2_readHeads_80 rfl (lv_at hl 1 rfl) ?_
          refine gX_6_0 hx hb hts hown hK hP (hts _ kw_74) dX2_readHeads_81 ?_
          obtain ⟨σ_r10, h_r10, hf⟩ := bv_some hf
          refine cx_V (As := []) (rest := []) cx (ct_xX9_advance l D C A adK adV hA h_r10) (cw_X2_54 hts ⟨Nat.le_of_ble_eq_true rfl, Nat.le_of_ble_eq_true rfl⟩) (va_recv hK hP (ci := 9) (q0 := 1) rfl (wX_1 A C _)) hP hS rfl hl.1 rfl (Nat.le_of_ble_eq_true rfl) dX2_readHeads_84 ⟨Nat.zero_le _, Nat.zero_le _⟩ (fun H locs hP hS => ?_)
          refine lv_aload_n hx hb dX2_readHeads_87 rfl (lv_at hl 1 rfl) ?_
          refine gX_6_0 hx hb hts hown hK hP (hts _ kw_74) dX2_readHeads_88 ?_
          refine lv_bipush (v := 59) hx hb dX2_readHeads_91 (by decide) ?_
          obtain ⟨⟨r11, σ_r11⟩, h_r11, hf⟩ := bd_some hf
          refine cx_V (As := [.int 59]) (rest := []) cx (ct_xX9_pass l D C A adK adV hA h_r11) (cw_X2_65 hts ⟨Nat.le_of_ble_eq_true rfl, Nat.le_of_ble_eq_true rfl⟩) (va_recv hK hP (ci := 9) (q0 := 1) rfl (wX_1 A C _)) hP hS rfl hl.1 rfl (Nat.le_of_ble_eq_true rfl) dX2_readHeads_93 ⟨Nat.zero_le _, Nat.zero_le _⟩ (fun H locs hP hS => ?_)
          obtain ⟨z12, hf⟩ := gd_some hf
          exact cx_zret cx (nb_ok z12) hP hS hf dX2_readHeads_96
        · have hf := (if_neg c8).symm.trans hf
          exact w_F_xX2_readHeads_41 hA cx _ _ _ _ hf (lv_sub hl [1] rfl) hP hS
  · have hf := (if_pos c4).symm.trans hf
    refine lv_iconst (v := 0) hx hb dX2_readHeads_9 (by decide) ?_
    exact cx_zret cx rfl hP hS hf dX2_readHeads_10
set_option maxHeartbeats 4000000 in
set_option maxRecDepth 100000 in
theorem w_F_xX9_isWord_14 {p : Program} {l : Launch} {e : Env} {s : State} {m : MethodId} {args : Array Value} {below : List Frame} {meth : Method} {c : Code} {D : va_G} {C : Nat → ClassId} {A adK adV : Nat → Nat} (hA : apA A 60) (cx : Cxx D C adK adV (fxA A 60) p s m args meth c cX9_isWord 4 RX9 (some .boolean)) {i : Nat} (hi : i < 17) {res : (Int32 × St)} : ∀ (n : Nat), ∀ (x2 : Int32) (x3 : Int32) (σ : St) (H : Heap) (locs : List Loc) (ls : Array Slot), F_xX9_isWord_14 i n x2 x3 σ = some res → lv_has ls 4 [(0, .ref (A 1)), (1, .ref (adK i)), (2, .int x2), (3, .int x3)] → va_P D vwCl (wX A C σ) H → va_S (fxA A 60) s.heap H locs → W p l e rm_X9_isWord s m args below meth c H locs 0 0 (MQ below (Qcx D (wX A C) (fxA A 60) (some (.int res.1)) res.2) args s 0 0 (fxA A 60)) (F0 m 14 ls []) := by
  obtain ⟨hx, hb, hml, hown, hts, hK, hr, hlk, hZ⟩ := id cx
  intro n
  induction n with
  | zero =>
    intro x2 x3 σ H locs ls hf hl hP hS
    exact absurd (show (none : Option (Int32 × St)) = some res from hf) (by intro h; cases h)
  | succ n ih =>
    intro x2 x3 σ H locs ls hf hl hP hS
    refine lv_iload_n hx hb dX9_isWord_14 rfl (lv_at hl 3 rfl) ?_
    refine lv_aload_n hx hb dX9_isWord_15 rfl (lv_at hl 1 rfl) ?_
    refine cx_V (As := []) (rest := [.int x3]) cx (ct_length l D C (wX A C) adK adV (fxA A 60) hi) (cw_X9_61 hts ⟨Nat.le_of_ble_eq_true rfl, Nat.le_of_ble_eq_true rfl⟩) (vk_recv hZ.1 hi hS) hP hS rfl hl.1 rfl (Nat.le_of_ble_eq_true rfl) dX9_isWord_16 ⟨Nat.zero_le _, Nat.zero_le _⟩ (fun H locs hP hS => ?_)
    refine lv_icmp_ge (tgt := 38) hx hb dX9_isWord_19 (by decide) (fun c1 => ?_) (fun c1 => ?_)
    · have hf := (if_pos c1).symm.trans hf
      refine lv_iload_n hx hb dX9_isWord_38 rfl (lv_at hl 2 rfl) ?_
      refine lv_aload_n hx hb dX9_isWord_39 rfl (lv_at hl 0 rfl) ?_
      refine gX_1_5 hx hb hts hown hK hP (v := (σ.1 4)) rfl (hts _ kw_250) dX9_isWord_40 ?_
      refine lv_icmp_ne (tgt := 50) hx hb dX9_isWord_43 (by decide) (fun c2 => ?_) (fun c2 => ?_)
      · have hf := (if_neg c2).symm.trans hf
        refine lv_iconst (v := 0) hx hb dX9_isWord_50 (by decide) ?_
        exact cx_zret cx rfl hP hS hf dX9_isWord_51
      · have hf := (if_pos c2).symm.trans hf
        refine lv_iconst (v := 1) hx hb dX9_isWord_46 (by decide) ?_
        refine lv_goto (tgt := 51) hx hb dX9_isWord_47 (by decide) ?_
        exact cx_zret cx rfl hP hS hf dX9_isWord_51
    · have hf := (if_neg c1).symm.trans hf
      refine lv_iload_n hx hb dX9_isWord_22 rfl (lv_at hl 2 rfl) ?_
      refine lv_aload_n hx hb dX9_isWord_23 rfl (lv_at hl 1 rfl) ?_
      refine lv_iload_n hx hb dX9_isWord_24 rfl (lv_at hl 3 rfl) ?_
      obtain ⟨z3, hf⟩ := gd_some hf
      refine cx_V (As := [.int x3]) (rest := [.int x2]) cx (ct_charAt l D C (wX A C) adK adV (fxA A 60) hi (ib_in z3)) (cw_X9_66 hts ⟨Nat.le_of_ble_eq_true rfl, Nat.le_of_ble_eq_true rfl⟩) (vk_recv hZ.1 hi hS) hP hS rfl hl.1 rfl (Nat.le_of_ble_eq_true rfl) dX9_isWord_25 ⟨Nat.zero_le _, Nat.zero_le _⟩ (fun H locs hP hS => ?_)
      obtain ⟨⟨r4, σ_r4⟩, h_r4, hf⟩ := bd_some hf
      refine cx_S (As := [.int x2, .int (strAt i x3)]) (rest := []) cx (ct_xX9_codeWith l D C A adK adV hA h_r4) (cw_X9_57 hts ⟨Nat.le_of_ble_eq_true rfl, Nat.le_of_ble_eq_true rfl⟩) hP hS rfl hl.1 rfl (Nat.le_of_ble_eq_true rfl) dX9_isWord_28 ⟨Nat.zero_le _, Nat.zero_le _⟩ (fun H locs hP hS => ?_)
      refine lv_istore_n (lv' := [(2, .int r4), (0, .ref (A 1)), (1, .ref (adK i)), (3, .int x3)]) hx hb dX9_isWord_31 rfl hl (by decide) rfl (fun ls hl => ?_)
      refine lv_iinc (v := (x3 + 1)) (lv' := [(3, .int (x3 + 1)), (2, .int r4), (0, .ref (A 1)), (1, .ref (adK i))]) hx hb dX9_isWord_32 hl (k := 3) rfl rfl (by decide) rfl (fun ls hl => ?_)
      refine lv_goto (tgt := 14) hx hb dX9_isWord_35 (by decide) ?_
      exact ih _ _ _ _ _ _ hf (lv_sub hl [2, 3, 1, 0] rfl) hP hS
set_option maxHeartbeats 4000000 in
set_option maxRecDepth 100000 in
theorem ct_xX9_isWord (l : Launch) (D : va_G) (C : Nat → ClassId) (A adK adV : Nat → Nat) (hA : apA A 60) {i : Nat} (hi : i < 17)  {σ : St} {res : (Int32 × St)} (hf : F_xX9_isWord i σ = some res) : Met l yX9_isWord (Cond.code yX9_isWord cX9_isWord 4 (some .boolean) :: wsL_law) rm_X9_isWord (Pcx D C (wX A C) adK adV (fxA A 60) [.ref (A 1), .ref (adK i)] σ) (Qcx D (wX A C) (fxA A 60) (some (.int res.1)) res.2) 0 0 (fxA A 60) := by
  refine Met.ofW (cc := cX9_isWord) (maxL := 4) (ret := (some .boolean)) (by decide) rfl ?_
  intro p e s m args below meth c s₁ B hml hv
  obtain ⟨rfl, hP, hK, hZ⟩ := hv
  have cx : Cxx D C adK adV (fxA A 60) p s m _ meth c cX9_isWord 4 RX9 (some .boolean) := ⟨B.exec, B.bytes, hml, findClass_of_methodNamed B.named, fun w h => atoms_spec (ws := Cond.code yX9_isWord cX9_isWord 4 (some .boolean) :: wsL_law) B.pre w (List.mem_cons_of_mem _ h), hK, B.returns, B.notSynchronized, hZ⟩
  obtain ⟨hx, hb, -, hown, hts, -, hr, hlk, -⟩ := id cx
  have hS : va_S (fxA A 60) s.heap s.heap [] := va_S.rf
  have hl := lv_entry ([.ref (A 1), .ref (adK i)]) (n := 4) (Nat.le_of_ble_eq_true rfl)
  rw [lg_entry_eq]
  generalize (lg_sl ([.ref (A 1), .ref (adK i)]) ++ List.replicate (4 - (lg_sl ([.ref (A 1), .ref (adK i)])).length) Slot.unset).toArray = ls at hl ⊢
  have hl : lv_has ls 4 [(0, .ref (A 1)), (1, .ref (adK i))] := hl
  show W p l e rm_X9_isWord s m _ below meth c s.heap [] 0 0 _ _
  refine lv_aload_n hx hb dX9_isWord_0 rfl (lv_at hl 0 rfl) ?_
  refine gX_1_3 hx hb hts hown hK hP (v := (σ.1 2)) rfl (hts _ kw_238) dX9_isWord_1 ?_
  refine lv_iconst (v := 1) hx hb dX9_isWord_4 (by decide) ?_
  refine lv_icmp_eq (tgt := 10) hx hb dX9_isWord_5 (by decide) (fun c5 => ?_) (fun c5 => ?_)
  · have hf := (if_pos c5).symm.trans hf
    refine lv_iconst (v := 0) hx hb dX9_isWord_10 (by decide) ?_
    refine lv_istore_n (lv' := [(2, .int 0), (0, .ref (A 1)), (1, .ref (adK i))]) hx hb dX9_isWord_11 rfl hl (by decide) rfl (fun ls hl => ?_)
    refine lv_iconst (v := 0) hx hb dX9_isWord_12 (by decide) ?_
    refine lv_istore_n (lv' := [(3, .int 0), (2, .int 0), (0, .ref (A 1)), (1, .ref (adK i))]) hx hb dX9_isWord_13 rfl hl (by decide) rfl (fun ls hl => ?_)
    exact w_F_xX9_isWord_14 hA cx hi FU _ _ _ _ _ _ hf (lv_sub hl [2, 3, 1, 0] rfl) hP hS
  · have hf := (if_neg c5).symm.trans hf
    refine lv_iconst (v := 0) hx hb dX9_isWord_8 (by decide) ?_
    exact cx_zret cx rfl hP hS hf dX9_isWord_9
set_option maxHeartbeats 4000000 in
set_option maxRecDepth 100000 in
theorem w_F_xX2_readTrack_56 {p : Program} {l : Launch} {e : Env} {s : State} {m : MethodId} {args : Array Value} {below : List Frame} {meth : Method} {c : Code} {D : va_G} {C : Nat → ClassId} {A adK adV : Nat → Nat} (hA : apA A 60) (cx : Cxx D C adK adV (fxA A 60) p s m args meth c cX2_readTrack 3 RX2 (some .boolean)) {res : (Int32 × St)} : ∀ (x1 : Int32) (x2 : Int32) (σ : St) (H : Heap) (locs : List Loc) (ls : Array Slot), F_xX2_readTrack_56 x1 x2 σ = some res → lv_has ls 3 [(0, .ref (A 6)), (1, .int x1), (2, .int x2)] → va_P D vwCl (wX A C σ) H → va_S (fxA A 60) s.heap H locs → W p l e rm_X2_readTrack s m args below meth c H locs 0 0 (MQ below (Qcx D (wX A C) (fxA A 60) (some (.int res.1)) res.2) args s 0 0 (fxA A 60)) (F0 m 56 ls []) := by
  obtain ⟨hx, hb, hml, hown, hts, hK, hr, hlk, hZ⟩ := id cx
  intro x1 x2 σ H locs ls hf hl hP hS
  refine lv_aload_n hx hb dX2_readTrack_56 rfl (lv_at hl 0 rfl) ?_
  refine gX_6_1 hx hb hts hown hK hP (hts _ kw_73) dX2_readTrack_57 ?_
  refine gX_7_1 hx hb hts hown hK hP (v := (σ.1 10)) rfl (hts _ kw_225) dX2_readTrack_60 ?_
  refine lv_iconst (v := 4) hx hb dX2_readTrack_63 (by decide) ?_
  refine lv_icmp_lt (tgt := 83) hx hb dX2_readTrack_64 (by decide) (fun c1 => ?_) (fun c1 => ?_)
  · have hf := (if_pos c1).symm.trans hf
    refine lv_aload_n hx hb dX2_readTrack_83 rfl (lv_at hl 0 rfl) ?_
    refine gX_6_0 hx hb hts hown hK hP (hts _ kw_74) dX2_readTrack_84 ?_
    obtain ⟨σ_r2, h_r2, hf⟩ := bv_some hf
    refine cx_V (As := []) (rest := []) cx (ct_xX9_advance l D C A adK adV hA h_r2) (cw_X2_54 hts ⟨Nat.le_of_ble_eq_true rfl, Nat.le_of_ble_eq_true rfl⟩) (va_recv hK hP (ci := 9) (q0 := 1) rfl (wX_1 A C _)) hP hS rfl hl.1 rfl (Nat.le_of_ble_eq_true rfl) dX2_readTrack_87 ⟨Nat.zero_le _, Nat.zero_le _⟩ (fun H locs hP hS => ?_)
    refine lv_iload_n hx hb dX2_readTrack_90 rfl (lv_at hl 1 rfl) ?_
    refine lv_if_eq (tgt := 99) hx hb dX2_readTrack_91 (by decide) (fun c3 => ?_) (fun c3 => ?_)
    · have hf := (if_pos c3).symm.trans hf
      refine lv_iload_n hx hb dX2_readTrack_99 rfl (lv_at hl 2 rfl) ?_
      refine lv_if_eq (tgt := 108) hx hb dX2_readTrack_100 (by decide) (fun c4 => ?_) (fun c4 => ?_)
      · have hf := (if_pos c4).symm.trans hf
        refine lv_aload_n hx hb dX2_readTrack_108 rfl (lv_at hl 0 rfl) ?_
        refine gX_6_1 hx hb hts hown hK hP (hts _ kw_73) dX2_readTrack_109 ?_
        refine lv_aload_n hx hb dX2_readTrack_112 rfl (lv_at hl 0 rfl) ?_
        refine gX_6_1 hx hb hts hown hK hP (hts _ kw_73) dX2_readTrack_113 ?_
        refine gX_7_0 hx hb hts hown hK hP (v := (σ_r2.1 9)) rfl (hts _ kw_267) dX2_readTrack_116 ?_
        refine lv_aload_n hx hb dX2_readTrack_119 rfl (lv_at hl 0 rfl) ?_
        refine gX_6_1 hx hb hts hown hK hP (hts _ kw_73) dX2_readTrack_120 ?_
        refine gX_7_0 hx hb hts hown hK hP (v := (σ_r2.1 9)) rfl (hts _ kw_267) dX2_readTrack_123 ?_
        obtain ⟨σ_r5, h_r5, hf⟩ := bv_some hf
        refine cx_V (As := [.int (σ_r2.1 9), .int (σ_r2.1 9)]) (rest := []) cx (ct_xX1_addTrack l D C A adK adV hA h_r5) (cw_X2_81 hts ⟨Nat.le_of_ble_eq_true rfl, Nat.le_of_ble_eq_true rfl⟩) (va_recv hK hP (ci := 1) (q0 := 7) rfl (wX_7 A C _)) hP hS rfl hl.1 rfl (Nat.le_of_ble_eq_true rfl) dX2_readTrack_126 ⟨Nat.zero_le _, Nat.zero_le _⟩ (fun H locs hP hS => ?_)
        refine lv_aload_n hx hb dX2_readTrack_129 rfl (lv_at hl 0 rfl) ?_
        refine gX_6_0 hx hb hts hown hK hP (hts _ kw_74) dX2_readTrack_130 ?_
        refine lv_bipush (v := 59) hx hb dX2_readTrack_133 (by decide) ?_
        obtain ⟨⟨r6, σ_r6⟩, h_r6, hf⟩ := bd_some hf
        refine cx_V (As := [.int 59]) (rest := []) cx (ct_xX9_pass l D C A adK adV hA h_r6) (cw_X2_65 hts ⟨Nat.le_of_ble_eq_true rfl, Nat.le_of_ble_eq_true rfl⟩) (va_recv hK hP (ci := 9) (q0 := 1) rfl (wX_1 A C _)) hP hS rfl hl.1 rfl (Nat.le_of_ble_eq_true rfl) dX2_readTrack_135 ⟨Nat.zero_le _, Nat.zero_le _⟩ (fun H locs hP hS => ?_)
        obtain ⟨z7, hf⟩ := gd_some hf
        exact cx_zret cx (nb_ok z7) hP hS hf dX2_readTrack_138
      · have hf := (if_neg c4).symm.trans hf
        refine lv_aload_n hx hb dX2_readTrack_103 rfl (lv_at hl 0 rfl) ?_
        obtain ⟨⟨r8, σ_r8⟩, h_r8, hf⟩ := bd_some hf
        refine cx_V (As := []) (rest := []) cx (ct_xX2_readQuickWords l D C A adK adV hA h_r8) (cw_X2_78 hts ⟨Nat.le_of_ble_eq_true rfl, Nat.le_of_ble_eq_true rfl⟩) (va_recv hK hP (ci := 2) (q0 := 6) rfl (wX_6 A C _)) hP hS rfl hl.1 rfl (Nat.le_of_ble_eq_true rfl) dX2_readTrack_104 ⟨Nat.zero_le _, Nat.zero_le _⟩ (fun H locs hP hS => ?_)
        obtain ⟨z9, hf⟩ := gd_some hf
        exact cx_zret cx (nb_ok z9) hP hS hf dX2_readTrack_107
    · have hf := (if_neg c3).symm.trans hf
      refine lv_aload_n hx hb dX2_readTrack_94 rfl (lv_at hl 0 rfl) ?_
      obtain ⟨⟨r10, σ_r10⟩, h_r10, hf⟩ := bd_some hf
      refine cx_V (As := []) (rest := []) cx (ct_xX2_readHeads l D C A adK adV hA h_r10) (cw_X2_75 hts ⟨Nat.le_of_ble_eq_true rfl, Nat.le_of_ble_eq_true rfl⟩) (va_recv hK hP (ci := 2) (q0 := 6) rfl (wX_6 A C _)) hP hS rfl hl.1 rfl (Nat.le_of_ble_eq_true rfl) dX2_readTrack_95 ⟨Nat.zero_le _, Nat.zero_le _⟩ (fun H locs hP hS => ?_)
      obtain ⟨z11, hf⟩ := gd_some hf
      exact cx_zret cx (nb_ok z11) hP hS hf dX2_readTrack_98
  · have hf := (if_neg c1).symm.trans hf
    refine lv_aload_n hx hb dX2_readTrack_67 rfl (lv_at hl 0 rfl) ?_
    refine gX_6_0 hx hb hts hown hK hP (hts _ kw_74) dX2_readTrack_68 ?_
    refine lv_iconst (v := 4) hx hb dX2_readTrack_71 (by decide) ?_
    refine lv_aload_n hx hb dX2_readTrack_72 rfl (lv_at hl 0 rfl) ?_
    refine gX_6_0 hx hb hts hown hK hP (hts _ kw_74) dX2_readTrack_73 ?_
    refine gX_1_4 hx hb hts hown hK hP (v := (σ.1 3)) rfl (hts _ kw_265) dX2_readTrack_76 ?_
    obtain ⟨⟨r12, σ_r12⟩, h_r12, hf⟩ := bd_some hf
    refine cx_V (As := [.int 4, .int (σ.1 3)]) (rest := []) cx (ct_xX9_fail l D C A adK adV hA h_r12) (cw_X2_50 hts ⟨Nat.le_of_ble_eq_true rfl, Nat.le_of_ble_eq_true rfl⟩) (va_recv hK hP (ci := 9) (q0 := 1) rfl (wX_1 A C _)) hP hS rfl hl.1 rfl (Nat.le_of_ble_eq_true rfl) dX2_readTrack_79 ⟨Nat.zero_le _, Nat.zero_le _⟩ (fun H locs hP hS => ?_)
    obtain ⟨z13, hf⟩ := gd_some hf
    exact cx_zret cx (nb_ok z13) hP hS hf dX2_readTrack_82
set_option maxHeartbeats 4000000 in
set_option maxRecDepth 100000 in
theorem ct_xX2_readTrack (l : Launch) (D : va_G) (C : Nat → ClassId) (A adK adV : Nat → Nat) (hA : apA A 60)  {σ : St} {res : (Int32 × St)} (hf : F_xX2_readTrack σ = some res) : Met l yX2_readTrack (Cond.code yX2_readTrack cX2_readTrack 3 (some .boolean) :: wsL_law) rm_X2_readTrack (Pcx D C (wX A C) adK adV (fxA A 60) [.ref (A 6)] σ) (Qcx D (wX A C) (fxA A 60) (some (.int res.1)) res.2) 0 0 (fxA A 60) := by
  refine Met.ofW (cc := cX2_readTrack) (maxL := 3) (ret := (some .boolean)) (by decide) rfl ?_
  intro p e s m args below meth c s₁ B hml hv
  obtain ⟨rfl, hP, hK, hZ⟩ := hv
  have cx : Cxx D C adK adV (fxA A 60) p s m _ meth c cX2_readTrack 3 RX2 (some .boolean) := ⟨B.exec, B.bytes, hml, findClass_of_methodNamed B.named, fun w h => atoms_spec (ws := Cond.code yX2_readTrack cX2_readTrack 3 (some .boolean) :: wsL_law) B.pre w (List.mem_cons_of_mem _ h), hK, B.returns, B.notSynchronized, hZ⟩
  obtain ⟨hx, hb, -, hown, hts, -, hr, hlk, -⟩ := id cx
  have hS : va_S (fxA A 60) s.heap s.heap [] := va_S.rf
  have hl := lv_entry ([.ref (A 6)]) (n := 3) (Nat.le_of_ble_eq_true rfl)
  rw [lg_entry_eq]
  generalize (lg_sl ([.ref (A 6)]) ++ List.replicate (3 - (lg_sl ([.ref (A 6)])).length) Slot.unset).toArray = ls at hl ⊢
  have hl : lv_has ls 3 [(0, .ref (A 6))] := hl
  show W p l e rm_X2_readTrack s m _ below meth c s.heap [] 0 0 _ _
  refine lv_aload_n hx hb dX2_readTrack_0 rfl (lv_at hl 0 rfl) ?_
  refine gX_6_0 hx hb hts hown hK hP (hts _ kw_74) dX2_readTrack_1 ?_
  refine va_ldcS hx hb hown (hZ.2.1 1 (by decide)) dX2_readTrack_4 ?_
  obtain ⟨⟨r14, σ_r14⟩, h_r14, hf⟩ := bd_some hf
  refine cx_V (As := [.ref (adK 1)]) (rest := []) cx (ct_xX9_isWord l D C A adK adV hA (by decide) h_r14) (cw_X2_43 hts ⟨Nat.le_of_ble_eq_true rfl, Nat.le_of_ble_eq_true rfl⟩) (va_recv hK hP (ci := 9) (q0 := 1) rfl (wX_1 A C _)) hP hS rfl hl.1 rfl (Nat.le_of_ble_eq_true rfl) dX2_readTrack_6 ⟨Nat.zero_le _, Nat.zero_le _⟩ (fun H locs hP hS => ?_)
  refine lv_istore_n (lv' := [(1, .int r14), (0, .ref (A 6))]) hx hb dX2_readTrack_9 rfl hl (by decide) rfl (fun ls hl => ?_)
  refine lv_aload_n hx hb dX2_readTrack_10 rfl (lv_at hl 1 rfl) ?_
  refine gX_6_0 hx hb hts hown hK hP (hts _ kw_74) dX2_readTrack_11 ?_
  refine va_ldcS hx hb hown (hZ.2.1 2 (by decide)) dX2_readTrack_14 ?_
  obtain ⟨⟨r15, σ_r15⟩, h_r15, hf⟩ := bd_some hf
  refine cx_V (As := [.ref (adK 2)]) (rest := []) cx (ct_xX9_isWord l D C A adK adV hA (by decide) h_r15) (cw_X2_43 hts ⟨Nat.le_of_ble_eq_true rfl, Nat.le_of_ble_eq_true rfl⟩) (va_recv hK hP (ci := 9) (q0 := 1) rfl (wX_1 A C _)) hP hS rfl hl.1 rfl (Nat.le_of_ble_eq_true rfl) dX2_readTrack_16 ⟨Nat.zero_le _, Nat.zero_le _⟩ (fun H locs hP hS => ?_)
  refine lv_istore_n (lv' := [(2, .int r15), (1, .int r14), (0, .ref (A 6))]) hx hb dX2_readTrack_19 rfl hl (by decide) rfl (fun ls hl => ?_)
  refine lv_iload_n hx hb dX2_readTrack_20 rfl (lv_at hl 1 rfl) ?_
  refine lv_if_ne (tgt := 56) hx hb dX2_readTrack_21 (by decide) (fun c16 => ?_) (fun c16 => ?_)
  · have hf := (if_neg c16).symm.trans hf
    exact w_F_xX2_readTrack_56 hA cx _ _ _ _ _ _ hf (lv_sub hl [2, 1, 0] rfl) hP hS
  · have hf := (if_pos c16).symm.trans hf
    refine lv_iload_n hx hb dX2_readTrack_24 rfl (lv_at hl 0 rfl) ?_
    refine lv_if_ne (tgt := 56) hx hb dX2_readTrack_25 (by decide) (fun c17 => ?_) (fun c17 => ?_)
    · have hf := (if_neg c17).symm.trans hf
      exact w_F_xX2_readTrack_56 hA cx _ _ _ _ _ _ hf (lv_sub hl [2, 1, 0] rfl) hP hS
    · have hf := (if_pos c17).symm.trans hf
      refine lv_aload_n hx hb dX2_readTrack_28 rfl (lv_at hl 2 rfl) ?_
      refine gX_6_0 hx hb hts hown hK hP (hts _ kw_74) dX2_readTrack_29 ?_
      refine va_ldcS hx hb hown (hZ.2.1 3 (by decide)) dX2_readTrack_32 ?_
      obtain ⟨⟨r18, σ_r18⟩, h_r18, hf⟩ := bd_some hf
      refine cx_V (As := [.ref (adK 3)]) (rest := []) cx (ct_xX9_isWord l D C A adK adV hA (by decide) h_r18) (cw_X2_43 hts ⟨Nat.le_of_ble_eq_true rfl, Nat.le_of_ble_eq_true rfl⟩) (va_recv hK hP (ci := 9) (q0 := 1) rfl (wX_1 A C _)) hP hS rfl hl.1 rfl (Nat.le_of_ble_eq_true rfl) dX2_readTrack_34 ⟨Nat.zero_le _, Nat.zero_le _⟩ (fun H locs hP hS => ?_)
      refine lv_if_ne (tgt := 56) hx hb dX2_readTrack_37 (by decide) (fun c19 => ?_) (fun c19 => ?_)
      · have hf := (if_neg c19).symm.trans hf
        exact w_F_xX2_readTrack_56 hA cx _ _ _ _ _ _ hf (lv_sub hl [2, 1, 0] rfl) hP hS
      · have hf := (if_pos c19).symm.trans hf
        refine lv_aload_n hx hb dX2_readTrack_40 rfl (lv_at hl 2 rfl) ?_
        refine gX_6_0 hx hb hts hown hK hP (hts _ kw_74) dX2_readTrack_41 ?_
        refine lv_iconst (v := 1) hx hb dX2_readTrack_44 (by decide) ?_
        refine lv_aload_n hx hb dX2_readTrack_45 rfl (lv_at hl 2 rfl) ?_
        refine gX_6_0 hx hb hts hown hK hP (hts _ kw_74) dX2_readTrack_46 ?_
        refine gX_1_4 hx hb hts hown hK hP (v := (σ_r18.1 3)) rfl (hts _ kw_265) dX2_readTrack_49 ?_
        obtain ⟨⟨r20, σ_r20⟩, h_r20, hf⟩ := bd_some hf
        refine cx_V (As := [.int 1, .int (σ_r18.1 3)]) (rest := []) cx (ct_xX9_fail l D C A adK adV hA h_r20) (cw_X2_50 hts ⟨Nat.le_of_ble_eq_true rfl, Nat.le_of_ble_eq_true rfl⟩) (va_recv hK hP (ci := 9) (q0 := 1) rfl (wX_1 A C _)) hP hS rfl hl.1 rfl (Nat.le_of_ble_eq_true rfl) dX2_readTrack_52 ⟨Nat.zero_le _, Nat.zero_le _⟩ (fun H locs hP hS => ?_)
        obtain ⟨z21, hf⟩ := gd_some hf
        exact cx_zret cx (nb_ok z21) hP hS hf dX2_readTrack_55
set_option maxHeartbeats 4000000 in
set_option maxRecDepth 100000 in
theorem ct_xX9_rewind (l : Launch) (D : va_G) (C : Nat → ClassId) (A adK adV : Nat → Nat) (hA : apA A 60)  {σ : St} {res : St} (hf : F_xX9_rewind σ = some res) : Met l yX9_rewind (Cond.code yX9_rewind cX9_rewind 1 none :: wsL_law) rm_X9_rewind (Pcx D C (wX A C) adK adV (fxA A 60) [.ref (A 1)] σ) (Qcx D (wX A C) (fxA A 60) none res) 0 0 (fxA A 60) := by
  refine Met.ofW (cc := cX9_rewind) (maxL := 1) (ret := none) (by decide) rfl ?_
  intro p e s m args below meth c s₁ B hml hv
  obtain ⟨rfl, hP, hK, hZ⟩ := hv
  have cx : Cxx D C adK adV (fxA A 60) p s m _ meth c cX9_rewind 1 RX9 none := ⟨B.exec, B.bytes, hml, findClass_of_methodNamed B.named, fun w h => atoms_spec (ws := Cond.code yX9_rewind cX9_rewind 1 none :: wsL_law) B.pre w (List.mem_cons_of_mem _ h), hK, B.returns, B.notSynchronized, hZ⟩
  obtain ⟨hx, hb, -, hown, hts, -, hr, hlk, -⟩ := id cx
  have hS : va_S (fxA A 60) s.heap s.heap [] := va_S.rf
  have hl := lv_entry ([.ref (A 1)]) (n := 1) (Nat.le_of_ble_eq_true rfl)
  rw [lg_entry_eq]
  generalize (lg_sl ([.ref (A 1)]) ++ List.replicate (1 - (lg_sl ([.ref (A 1)])).length) Slot.unset).toArray = ls at hl ⊢
  have hl : lv_has ls 1 [(0, .ref (A 1))] := hl
  show W p l e rm_X9_rewind s m _ below meth c s.heap [] 0 0 _ _
  refine lv_aload_n hx hb dX9_rewind_0 rfl (lv_at hl 0 rfl) ?_
  refine lv_iconst (v := 0) hx hb dX9_rewind_1 (by decide) ?_
  refine pX_1_2 hx hb hts hown hK hP hA hS (hts _ kw_231) dX9_rewind_2 (fun H locs hP hS => ?_)
  refine lv_aload_n hx hb dX9_rewind_5 rfl (lv_at hl 0 rfl) ?_
  refine lv_iconst (v := 0) hx hb dX9_rewind_6 (by decide) ?_
  refine pX_1_6 hx hb hts hown hK hP hA hS (hts _ kw_232) dX9_rewind_7 (fun H locs hP hS => ?_)
  refine lv_aload_n hx hb dX9_rewind_10 rfl (lv_at hl 0 rfl) ?_
  refine lv_iconst (v := (-1)) hx hb dX9_rewind_11 (by decide) ?_
  refine pX_1_7 hx hb hts hown hK hP hA hS (hts _ kw_58) dX9_rewind_12 (fun H locs hP hS => ?_)
  refine lv_aload_n hx hb dX9_rewind_15 rfl (lv_at hl 0 rfl) ?_
  have hP : va_P D vwCl (wX A C (sI (sI (sI σ 1 0) 5 0) 6 (-1))) H := hP
  obtain ⟨σ_r1, h_r1, hf⟩ := bv_some hf
  refine cx_V (As := []) (rest := []) cx (ct_xX9_advance l D C A adK adV hA h_r1) (cw_X9_28 hts ⟨Nat.le_of_ble_eq_true rfl, Nat.le_of_ble_eq_true rfl⟩) (va_recv hK hP (ci := 9) (q0 := 1) rfl (wX_1 A C _)) hP hS rfl hl.1 rfl (Nat.le_of_ble_eq_true rfl) dX9_rewind_16 ⟨Nat.zero_le _, Nat.zero_le _⟩ (fun H locs hP hS => ?_)
  exact cx_vret cx hP hS hf dX9_rewind_19
set_option maxHeartbeats 4000000 in
set_option maxRecDepth 100000 in
theorem ct_xX2_readWords (l : Launch) (D : va_G) (C : Nat → ClassId) (A adK adV : Nat → Nat) (hA : apA A 60)  {σ : St} {res : (Int32 × St)} (hf : F_xX2_readWords σ = some res) : Met l yX2_readWords (Cond.code yX2_readWords cX2_readWords 1 (some .boolean) :: wsL_law) rm_X2_readWords (Pcx D C (wX A C) adK adV (fxA A 60) [.ref (A 6)] σ) (Qcx D (wX A C) (fxA A 60) (some (.int res.1)) res.2) 0 0 (fxA A 60) := by
  refine Met.ofW (cc := cX2_readWords) (maxL := 1) (ret := (some .boolean)) (by decide) rfl ?_
  intro p e s m args below meth c s₁ B hml hv
  obtain ⟨rfl, hP, hK, hZ⟩ := hv
  have cx : Cxx D C adK adV (fxA A 60) p s m _ meth c cX2_readWords 1 RX2 (some .boolean) := ⟨B.exec, B.bytes, hml, findClass_of_methodNamed B.named, fun w h => atoms_spec (ws := Cond.code yX2_readWords cX2_readWords 1 (some .boolean) :: wsL_law) B.pre w (List.mem_cons_of_mem _ h), hK, B.returns, B.notSynchronized, hZ⟩
  obtain ⟨hx, hb, -, hown, hts, -, hr, hlk, -⟩ := id cx
  have hS : va_S (fxA A 60) s.heap s.heap [] := va_S.rf
  have hl := lv_entry ([.ref (A 6)]) (n := 1) (Nat.le_of_ble_eq_true rfl)
  rw [lg_entry_eq]
  generalize (lg_sl ([.ref (A 6)]) ++ List.replicate (1 - (lg_sl ([.ref (A 6)])).length) Slot.unset).toArray = ls at hl ⊢
  have hl : lv_has ls 1 [(0, .ref (A 6))] := hl
  show W p l e rm_X2_readWords s m _ below meth c s.heap [] 0 0 _ _
  refine lv_aload_n hx hb dX2_readWords_0 rfl (lv_at hl 0 rfl) ?_
  refine gX_6_0 hx hb hts hown hK hP (hts _ kw_74) dX2_readWords_1 ?_
  refine va_ldcS hx hb hown (hZ.2.1 0 (by decide)) dX2_readWords_4 ?_
  obtain ⟨⟨r1, σ_r1⟩, h_r1, hf⟩ := bd_some hf
  refine cx_V (As := [.ref (adK 0)]) (rest := []) cx (ct_xX9_isWord l D C A adK adV hA (by decide) h_r1) (cw_X2_43 hts ⟨Nat.le_of_ble_eq_true rfl, Nat.le_of_ble_eq_true rfl⟩) (va_recv hK hP (ci := 9) (q0 := 1) rfl (wX_1 A C _)) hP hS rfl hl.1 rfl (Nat.le_of_ble_eq_true rfl) dX2_readWords_6 ⟨Nat.zero_le _, Nat.zero_le _⟩ (fun H locs hP hS => ?_)
  refine lv_if_ne (tgt := 28) hx hb dX2_readWords_9 (by decide) (fun c2 => ?_) (fun c2 => ?_)
  · have hf := (if_neg c2).symm.trans hf
    refine lv_aload_n hx hb dX2_readWords_28 rfl (lv_at hl 0 rfl) ?_
    refine gX_6_0 hx hb hts hown hK hP (hts _ kw_74) dX2_readWords_29 ?_
    obtain ⟨σ_r3, h_r3, hf⟩ := bv_some hf
    refine cx_V (As := []) (rest := []) cx (ct_xX9_advance l D C A adK adV hA h_r3) (cw_X2_54 hts ⟨Nat.le_of_ble_eq_true rfl, Nat.le_of_ble_eq_true rfl⟩) (va_recv hK hP (ci := 9) (q0 := 1) rfl (wX_1 A C _)) hP hS rfl hl.1 rfl (Nat.le_of_ble_eq_true rfl) dX2_readWords_32 ⟨Nat.zero_le _, Nat.zero_le _⟩ (fun H locs hP hS => ?_)
    refine lv_aload_n hx hb dX2_readWords_35 rfl (lv_at hl 0 rfl) ?_
    refine lv_bipush (v := 8) hx hb dX2_readWords_36 (by decide) ?_
    refine lv_bipush (v := 32) hx hb dX2_readWords_38 (by decide) ?_
    obtain ⟨⟨r4, σ_r4⟩, h_r4, hf⟩ := bd_some hf
    refine cx_V (As := [.int 8, .int 32]) (rest := []) cx (ct_xX2_numberIsWithin l D C A adK adV hA h_r4) (cw_X2_57 hts ⟨Nat.le_of_ble_eq_true rfl, Nat.le_of_ble_eq_true rfl⟩) (va_recv hK hP (ci := 2) (q0 := 6) rfl (wX_6 A C _)) hP hS rfl hl.1 rfl (Nat.le_of_ble_eq_true rfl) dX2_readWords_40 ⟨Nat.zero_le _, Nat.zero_le _⟩ (fun H locs hP hS => ?_)
    refine lv_if_ne (tgt := 48) hx hb dX2_readWords_43 (by decide) (fun c5 => ?_) (fun c5 => ?_)
    · have hf := (if_neg c5).symm.trans hf
      refine lv_aload_n hx hb dX2_readWords_48 rfl (lv_at hl 0 rfl) ?_
      refine gX_6_1 hx hb hts hown hK hP (hts _ kw_73) dX2_readWords_49 ?_
      refine lv_aload_n hx hb dX2_readWords_52 rfl (lv_at hl 0 rfl) ?_
      refine gX_6_0 hx hb hts hown hK hP (hts _ kw_74) dX2_readWords_53 ?_
      refine gX_1_5 hx hb hts hown hK hP (v := (σ_r4.1 4)) rfl (hts _ kw_266) dX2_readWords_56 ?_
      refine pX_7_0 hx hb hts hown hK hP hA hS (hts _ kw_267) dX2_readWords_59 (fun H locs hP hS => ?_)
      refine lv_aload_n hx hb dX2_readWords_62 rfl (lv_at hl 0 rfl) ?_
      refine gX_6_0 hx hb hts hown hK hP (hts _ kw_74) dX2_readWords_63 ?_
      have hP : va_P D vwCl (wX A C (sI σ_r4 9 (σ_r4.1 4))) H := hP
      obtain ⟨σ_r6, h_r6, hf⟩ := bv_some hf
      refine cx_V (As := []) (rest := []) cx (ct_xX9_advance l D C A adK adV hA h_r6) (cw_X2_54 hts ⟨Nat.le_of_ble_eq_true rfl, Nat.le_of_ble_eq_true rfl⟩) (va_recv hK hP (ci := 9) (q0 := 1) rfl (wX_1 A C _)) hP hS rfl hl.1 rfl (Nat.le_of_ble_eq_true rfl) dX2_readWords_66 ⟨Nat.zero_le _, Nat.zero_le _⟩ (fun H locs hP hS => ?_)
      refine lv_aload_n hx hb dX2_readWords_69 rfl (lv_at hl 0 rfl) ?_
      refine gX_6_0 hx hb hts hown hK hP (hts _ kw_74) dX2_readWords_70 ?_
      refine lv_bipush (v := 59) hx hb dX2_readWords_73 (by decide) ?_
      obtain ⟨⟨r7, σ_r7⟩, h_r7, hf⟩ := bd_some hf
      refine cx_V (As := [.int 59]) (rest := []) cx (ct_xX9_pass l D C A adK adV hA h_r7) (cw_X2_65 hts ⟨Nat.le_of_ble_eq_true rfl, Nat.le_of_ble_eq_true rfl⟩) (va_recv hK hP (ci := 9) (q0 := 1) rfl (wX_1 A C _)) hP hS rfl hl.1 rfl (Nat.le_of_ble_eq_true rfl) dX2_readWords_75 ⟨Nat.zero_le _, Nat.zero_le _⟩ (fun H locs hP hS => ?_)
      obtain ⟨z8, hf⟩ := gd_some hf
      exact cx_zret cx (nb_ok z8) hP hS hf dX2_readWords_78
    · have hf := (if_pos c5).symm.trans hf
      refine lv_iconst (v := 0) hx hb dX2_readWords_46 (by decide) ?_
      exact cx_zret cx rfl hP hS hf dX2_readWords_47
  · have hf := (if_pos c2).symm.trans hf
    refine lv_aload_n hx hb dX2_readWords_12 rfl (lv_at hl 0 rfl) ?_
    refine gX_6_0 hx hb hts hown hK hP (hts _ kw_74) dX2_readWords_13 ?_
    refine lv_iconst (v := 1) hx hb dX2_readWords_16 (by decide) ?_
    refine lv_aload_n hx hb dX2_readWords_17 rfl (lv_at hl 0 rfl) ?_
    refine gX_6_0 hx hb hts hown hK hP (hts _ kw_74) dX2_readWords_18 ?_
    refine gX_1_4 hx hb hts hown hK hP (v := (σ_r1.1 3)) rfl (hts _ kw_265) dX2_readWords_21 ?_
    obtain ⟨⟨r9, σ_r9⟩, h_r9, hf⟩ := bd_some hf
    refine cx_V (As := [.int 1, .int (σ_r1.1 3)]) (rest := []) cx (ct_xX9_fail l D C A adK adV hA h_r9) (cw_X2_50 hts ⟨Nat.le_of_ble_eq_true rfl, Nat.le_of_ble_eq_true rfl⟩) (va_recv hK hP (ci := 9) (q0 := 1) rfl (wX_1 A C _)) hP hS rfl hl.1 rfl (Nat.le_of_ble_eq_true rfl) dX2_readWords_24 ⟨Nat.zero_le _, Nat.zero_le _⟩ (fun H locs hP hS => ?_)
    obtain ⟨z10, hf⟩ := gd_some hf
    exact cx_zret cx (nb_ok z10) hP hS hf dX2_readWords_27
set_option maxHeartbeats 4000000 in
set_option maxRecDepth 100000 in
theorem w_F_xX2_read_33 {p : Program} {l : Launch} {e : Env} {s : State} {m : MethodId} {args : Array Value} {below : List Frame} {meth : Method} {c : Code} {D : va_G} {C : Nat → ClassId} {A adK adV : Nat → Nat} (hA : apA A 60) (cx : Cxx D C adK adV (fxA A 60) p s m args meth c cX2_read 2 RX2 (some .boolean)) {res : (Int32 × St)} : ∀ (n : Nat), ∀ (x1 : Int32) (σ : St) (H : Heap) (locs : List Loc) (ls : Array Slot), F_xX2_read_33 n x1 σ = some res → lv_has ls 2 [(0, .ref (A 6)), (1, .int x1)] → va_P D vwCl (wX A C σ) H → va_S (fxA A 60) s.heap H locs → W p l e rm_X2_read s m args below meth c H locs 0 0 (MQ below (Qcx D (wX A C) (fxA A 60) (some (.int res.1)) res.2) args s 0 0 (fxA A 60)) (F0 m 33 ls []) := by
  obtain ⟨hx, hb, hml, hown, hts, hK, hr, hlk, hZ⟩ := id cx
  intro n
  induction n with
  | zero =>
    intro x1 σ H locs ls hf hl hP hS
    exact absurd (show (none : Option (Int32 × St)) = some res from hf) (by intro h; cases h)
  | succ n ih =>
    intro x1 σ H locs ls hf hl hP hS
    refine lv_iload_n hx hb dX2_read_33 rfl (lv_at hl 1 rfl) ?_
    refine lv_iconst (v := 4) hx hb dX2_read_34 (by decide) ?_
    refine lv_icmp_gt (tgt := 63) hx hb dX2_read_35 (by decide) (fun c1 => ?_) (fun c1 => ?_)
    · have hf := (if_pos c1).symm.trans hf
      refine lv_iconst (v := 1) hx hb dX2_read_63 (by decide) ?_
      exact cx_zret cx rfl hP hS hf dX2_read_64
    · have hf := (if_neg c1).symm.trans hf
      refine lv_aload_n hx hb dX2_read_38 rfl (lv_at hl 0 rfl) ?_
      refine gX_6_0 hx hb hts hown hK hP (hts _ kw_74) dX2_read_39 ?_
      refine gX_1_3 hx hb hts hown hK hP (v := (σ.1 2)) rfl (hts _ kw_226) dX2_read_42 ?_
      refine lv_if_eq (tgt := 63) hx hb dX2_read_45 (by decide) (fun c2 => ?_) (fun c2 => ?_)
      · have hf := (if_pos c2).symm.trans hf
        refine lv_iconst (v := 1) hx hb dX2_read_63 (by decide) ?_
        exact cx_zret cx rfl hP hS hf dX2_read_64
      · have hf := (if_neg c2).symm.trans hf
        refine lv_aload_n hx hb dX2_read_48 rfl (lv_at hl 0 rfl) ?_
        obtain ⟨⟨r3, σ_r3⟩, h_r3, hf⟩ := bd_some hf
        refine cx_V (As := []) (rest := []) cx (ct_xX2_readTrack l D C A adK adV hA h_r3) (cw_X2_35 hts ⟨Nat.le_of_ble_eq_true rfl, Nat.le_of_ble_eq_true rfl⟩) (va_recv hK hP (ci := 2) (q0 := 6) rfl (wX_6 A C _)) hP hS rfl hl.1 rfl (Nat.le_of_ble_eq_true rfl) dX2_read_49 ⟨Nat.zero_le _, Nat.zero_le _⟩ (fun H locs hP hS => ?_)
        refine lv_if_ne (tgt := 57) hx hb dX2_read_52 (by decide) (fun c4 => ?_) (fun c4 => ?_)
        · have hf := (if_neg c4).symm.trans hf
          refine lv_iinc (v := (x1 + 1)) (lv' := [(1, .int (x1 + 1)), (0, .ref (A 6))]) hx hb dX2_read_57 hl (k := 1) rfl rfl (by decide) rfl (fun ls hl => ?_)
          refine lv_goto (tgt := 33) hx hb dX2_read_60 (by decide) ?_
          exact ih _ _ _ _ _ hf (lv_sub hl [1, 0] rfl) hP hS
        · have hf := (if_pos c4).symm.trans hf
          refine lv_iconst (v := 0) hx hb dX2_read_55 (by decide) ?_
          exact cx_zret cx rfl hP hS hf dX2_read_56
set_option maxHeartbeats 4000000 in
set_option maxRecDepth 100000 in
theorem ct_xX2_read (l : Launch) (D : va_G) (C : Nat → ClassId) (A adK adV : Nat → Nat) (hA : apA A 60)  {σ : St} {res : (Int32 × St)} (hf : F_xX2_read σ = some res) : Met l yX2_read (Cond.code yX2_read cX2_read 2 (some .boolean) :: wsL_law) rm_X2_read (Pcx D C (wX A C) adK adV (fxA A 60) [.ref (A 6)] σ) (Qcx D (wX A C) (fxA A 60) (some (.int res.1)) res.2) 0 0 (fxA A 60) := by
  refine Met.ofW (cc := cX2_read) (maxL := 2) (ret := (some .boolean)) (by decide) rfl ?_
  intro p e s m args below meth c s₁ B hml hv
  obtain ⟨rfl, hP, hK, hZ⟩ := hv
  have cx : Cxx D C adK adV (fxA A 60) p s m _ meth c cX2_read 2 RX2 (some .boolean) := ⟨B.exec, B.bytes, hml, findClass_of_methodNamed B.named, fun w h => atoms_spec (ws := Cond.code yX2_read cX2_read 2 (some .boolean) :: wsL_law) B.pre w (List.mem_cons_of_mem _ h), hK, B.returns, B.notSynchronized, hZ⟩
  obtain ⟨hx, hb, -, hown, hts, -, hr, hlk, -⟩ := id cx
  have hS : va_S (fxA A 60) s.heap s.heap [] := va_S.rf
  have hl := lv_entry ([.ref (A 6)]) (n := 2) (Nat.le_of_ble_eq_true rfl)
  rw [lg_entry_eq]
  generalize (lg_sl ([.ref (A 6)]) ++ List.replicate (2 - (lg_sl ([.ref (A 6)])).length) Slot.unset).toArray = ls at hl ⊢
  have hl : lv_has ls 2 [(0, .ref (A 6))] := hl
  show W p l e rm_X2_read s m _ below meth c s.heap [] 0 0 _ _
  refine lv_aload_n hx hb dX2_read_0 rfl (lv_at hl 0 rfl) ?_
  refine gX_6_0 hx hb hts hown hK hP (hts _ kw_74) dX2_read_1 ?_
  obtain ⟨σ_r5, h_r5, hf⟩ := bv_some hf
  refine cx_V (As := []) (rest := []) cx (ct_xX9_rewind l D C A adK adV hA h_r5) (cw_X2_22 hts ⟨Nat.le_of_ble_eq_true rfl, Nat.le_of_ble_eq_true rfl⟩) (va_recv hK hP (ci := 9) (q0 := 1) rfl (wX_1 A C _)) hP hS rfl hl.1 rfl (Nat.le_of_ble_eq_true rfl) dX2_read_4 ⟨Nat.zero_le _, Nat.zero_le _⟩ (fun H locs hP hS => ?_)
  refine lv_aload_n hx hb dX2_read_7 rfl (lv_at hl 0 rfl) ?_
  refine gX_6_1 hx hb hts hown hK hP (hts _ kw_73) dX2_read_8 ?_
  refine lv_iconst (v := 0) hx hb dX2_read_11 (by decide) ?_
  refine pX_7_1 hx hb hts hown hK hP hA hS (hts _ kw_225) dX2_read_12 (fun H locs hP hS => ?_)
  refine lv_aload_n hx hb dX2_read_15 rfl (lv_at hl 0 rfl) ?_
  have hP : va_P D vwCl (wX A C (sI σ_r5 10 0)) H := hP
  obtain ⟨⟨r6, σ_r6⟩, h_r6, hf⟩ := bd_some hf
  refine cx_V (As := []) (rest := []) cx (ct_xX2_readWords l D C A adK adV hA h_r6) (cw_X2_31 hts ⟨Nat.le_of_ble_eq_true rfl, Nat.le_of_ble_eq_true rfl⟩) (va_recv hK hP (ci := 2) (q0 := 6) rfl (wX_6 A C _)) hP hS rfl hl.1 rfl (Nat.le_of_ble_eq_true rfl) dX2_read_16 ⟨Nat.zero_le _, Nat.zero_le _⟩ (fun H locs hP hS => ?_)
  refine lv_if_eq (tgt := 29) hx hb dX2_read_19 (by decide) (fun c7 => ?_) (fun c7 => ?_)
  · have hf := (if_pos c7).symm.trans hf
    refine lv_iconst (v := 0) hx hb dX2_read_29 (by decide) ?_
    exact cx_zret cx rfl hP hS hf dX2_read_30
  · have hf := (if_neg c7).symm.trans hf
    refine lv_aload_n hx hb dX2_read_22 rfl (lv_at hl 0 rfl) ?_
    obtain ⟨⟨r8, σ_r8⟩, h_r8, hf⟩ := bd_some hf
    refine cx_V (As := []) (rest := []) cx (ct_xX2_readTrack l D C A adK adV hA h_r8) (cw_X2_35 hts ⟨Nat.le_of_ble_eq_true rfl, Nat.le_of_ble_eq_true rfl⟩) (va_recv hK hP (ci := 2) (q0 := 6) rfl (wX_6 A C _)) hP hS rfl hl.1 rfl (Nat.le_of_ble_eq_true rfl) dX2_read_23 ⟨Nat.zero_le _, Nat.zero_le _⟩ (fun H locs hP hS => ?_)
    refine lv_if_ne (tgt := 31) hx hb dX2_read_26 (by decide) (fun c9 => ?_) (fun c9 => ?_)
    · have hf := (if_neg c9).symm.trans hf
      refine lv_iconst (v := 1) hx hb dX2_read_31 (by decide) ?_
      refine lv_istore_n (lv' := [(1, .int 1), (0, .ref (A 6))]) hx hb dX2_read_32 rfl hl (by decide) rfl (fun ls hl => ?_)
      exact w_F_xX2_read_33 hA cx FU _ _ _ _ _ hf (lv_sub hl [1, 0] rfl) hP hS
    · have hf := (if_pos c9).symm.trans hf
      refine lv_iconst (v := 0) hx hb dX2_read_29 (by decide) ?_
      exact cx_zret cx rfl hP hS hf dX2_read_30
set_option maxHeartbeats 4000000 in
set_option maxRecDepth 100000 in
theorem w_F_xX1_copyFrom_18 {p : Program} {l : Launch} {e : Env} {s : State} {m : MethodId} {args : Array Value} {below : List Frame} {meth : Method} {c : Code} {D : va_G} {C : Nat → ClassId} {A adK adV : Nat → Nat} (hA : apA A 60) (cx : Cxx D C adK adV (fxA A 60) p s m args meth c cX1_copyFrom 3 RX1 none) {res : St} : ∀ (n : Nat), ∀ (x2 : Int32) (σ : St) (H : Heap) (locs : List Loc) (ls : Array Slot), F_xX1_copyFrom_18 n x2 σ = some res → lv_has ls 3 [(0, .ref (A 3)), (1, .ref (A 7)), (2, .int x2)] → va_P D vwCl (wX A C σ) H → va_S (fxA A 60) s.heap H locs → W p l e rm_X1_copyFrom s m args below meth c H locs 0 0 (MQ below (Qcx D (wX A C) (fxA A 60) none res) args s 0 0 (fxA A 60)) (F0 m 18 ls []) := by
  obtain ⟨hx, hb, hml, hown, hts, hK, hr, hlk, hZ⟩ := id cx
  intro n
  induction n with
  | zero =>
    intro x2 σ H locs ls hf hl hP hS
    exact absurd (show (none : Option St) = some res from hf) (by intro h; cases h)
  | succ n ih =>
    intro x2 σ H locs ls hf hl hP hS
    refine lv_iload_n hx hb dX1_copyFrom_18 rfl (lv_at hl 2 rfl) ?_
    refine lv_iconst (v := 4) hx hb dX1_copyFrom_19 (by decide) ?_
    refine lv_icmp_ge (tgt := 53) hx hb dX1_copyFrom_20 (by decide) (fun c1 => ?_) (fun c1 => ?_)
    · have hf := (if_pos c1).symm.trans hf
      exact cx_vret cx hP hS hf dX1_copyFrom_53
    · have hf := (if_neg c1).symm.trans hf
      refine lv_aload_n hx hb dX1_copyFrom_23 rfl (lv_at hl 0 rfl) ?_
      refine gX_3_2 hx hb hts hown hK hP (hts _ kw_64) dX1_copyFrom_24 ?_
      refine lv_iload_n hx hb dX1_copyFrom_27 rfl (lv_at hl 2 rfl) ?_
      refine lv_aload_n hx hb dX1_copyFrom_28 rfl (lv_at hl 1 rfl) ?_
      refine gX_7_2 hx hb hts hown hK hP (hts _ kw_64) dX1_copyFrom_29 ?_
      refine lv_iload_n hx hb dX1_copyFrom_32 rfl (lv_at hl 2 rfl) ?_
      obtain ⟨z2, hf⟩ := gd_some hf
      refine gX_a8 hx hb hK hP (ib_in z2) (v := (σ.2.1 8 x2.toNatClampNeg)) rfl dX1_copyFrom_33 ?_
      refine pX_a4 hx hb hK hP hA hS (ib_in z2) dX1_copyFrom_34 (fun H locs hP hS => ?_)
      refine lv_aload_n hx hb dX1_copyFrom_35 rfl (lv_at hl 0 rfl) ?_
      refine gX_3_3 hx hb hts hown hK hP (hts _ kw_65) dX1_copyFrom_36 ?_
      refine lv_iload_n hx hb dX1_copyFrom_39 rfl (lv_at hl 2 rfl) ?_
      refine lv_aload_n hx hb dX1_copyFrom_40 rfl (lv_at hl 1 rfl) ?_
      refine gX_7_3 hx hb hts hown hK hP (hts _ kw_65) dX1_copyFrom_41 ?_
      refine lv_iload_n hx hb dX1_copyFrom_44 rfl (lv_at hl 2 rfl) ?_
      refine gX_a9 hx hb hK hP (ib_in z2) (v := (σ.2.1 9 x2.toNatClampNeg)) rfl dX1_copyFrom_45 ?_
      refine pX_a5 hx hb hK hP hA hS (ib_in z2) dX1_copyFrom_46 (fun H locs hP hS => ?_)
      refine lv_iinc (v := (x2 + 1)) (lv' := [(2, .int (x2 + 1)), (0, .ref (A 3)), (1, .ref (A 7))]) hx hb dX1_copyFrom_47 hl (k := 2) rfl rfl (by decide) rfl (fun ls hl => ?_)
      refine lv_goto (tgt := 18) hx hb dX1_copyFrom_50 (by decide) ?_
      have hP : va_P D vwCl (wX A C (sA (sA σ 4 (upd (σ.2.1 4) x2.toNatClampNeg (σ.2.1 8 x2.toNatClampNeg))) 5 (upd (σ.2.1 5) x2.toNatClampNeg (σ.2.1 9 x2.toNatClampNeg)))) H := hP
      exact ih _ _ _ _ _ hf (lv_sub hl [1, 2, 0] rfl) hP hS
set_option maxHeartbeats 4000000 in
set_option maxRecDepth 100000 in
theorem ct_xX1_copyFrom (l : Launch) (D : va_G) (C : Nat → ClassId) (A adK adV : Nat → Nat) (hA : apA A 60)  {σ : St} {res : St} (hf : F_xX1_copyFrom σ = some res) : Met l yX1_copyFrom (Cond.code yX1_copyFrom cX1_copyFrom 3 none :: wsL_law) rm_X1_copyFrom (Pcx D C (wX A C) adK adV (fxA A 60) [.ref (A 3), .ref (A 7)] σ) (Qcx D (wX A C) (fxA A 60) none res) 0 0 (fxA A 60) := by
  refine Met.ofW (cc := cX1_copyFrom) (maxL := 3) (ret := none) (by decide) rfl ?_
  intro p e s m args below meth c s₁ B hml hv
  obtain ⟨rfl, hP, hK, hZ⟩ := hv
  have cx : Cxx D C adK adV (fxA A 60) p s m _ meth c cX1_copyFrom 3 RX1 none := ⟨B.exec, B.bytes, hml, findClass_of_methodNamed B.named, fun w h => atoms_spec (ws := Cond.code yX1_copyFrom cX1_copyFrom 3 none :: wsL_law) B.pre w (List.mem_cons_of_mem _ h), hK, B.returns, B.notSynchronized, hZ⟩
  obtain ⟨hx, hb, -, hown, hts, -, hr, hlk, -⟩ := id cx
  have hS : va_S (fxA A 60) s.heap s.heap [] := va_S.rf
  have hl := lv_entry ([.ref (A 3), .ref (A 7)]) (n := 3) (Nat.le_of_ble_eq_true rfl)
  rw [lg_entry_eq]
  generalize (lg_sl ([.ref (A 3), .ref (A 7)]) ++ List.replicate (3 - (lg_sl ([.ref (A 3), .ref (A 7)])).length) Slot.unset).toArray = ls at hl ⊢
  have hl : lv_has ls 3 [(0, .ref (A 3)), (1, .ref (A 7))] := hl
  show W p l e rm_X1_copyFrom s m _ below meth c s.heap [] 0 0 _ _
  refine lv_aload_n hx hb dX1_copyFrom_0 rfl (lv_at hl 0 rfl) ?_
  refine lv_aload_n hx hb dX1_copyFrom_1 rfl (lv_at hl 1 rfl) ?_
  refine gX_7_0 hx hb hts hown hK hP (v := (σ.1 9)) rfl (hts _ kw_66) dX1_copyFrom_2 ?_
  refine pX_3_0 hx hb hts hown hK hP hA hS (hts _ kw_66) dX1_copyFrom_5 (fun H locs hP hS => ?_)
  refine lv_aload_n hx hb dX1_copyFrom_8 rfl (lv_at hl 0 rfl) ?_
  refine lv_aload_n hx hb dX1_copyFrom_9 rfl (lv_at hl 1 rfl) ?_
  refine gX_7_1 hx hb hts hown hK hP (v := (σ.1 10)) rfl (hts _ kw_67) dX1_copyFrom_10 ?_
  refine pX_3_1 hx hb hts hown hK hP hA hS (hts _ kw_67) dX1_copyFrom_13 (fun H locs hP hS => ?_)
  refine lv_iconst (v := 0) hx hb dX1_copyFrom_16 (by decide) ?_
  refine lv_istore_n (lv' := [(2, .int 0), (0, .ref (A 3)), (1, .ref (A 7))]) hx hb dX1_copyFrom_17 rfl hl (by decide) rfl (fun ls hl => ?_)
  have hP : va_P D vwCl (wX A C (sI (sI σ 7 (σ.1 9)) 8 (σ.1 10))) H := hP
  exact w_F_xX1_copyFrom_18 hA cx FU _ _ _ _ _ hf (lv_sub hl [1, 2, 0] rfl) hP hS
