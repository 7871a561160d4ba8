set_option maxHeartbeats 4000000 in
set_option maxRecDepth 100000 in
theorem ct_mX11_spot (l : Launch) (D : va_G) (C : Nat → ClassId) (A adK adV : Nat → Nat) (hA : apA A 33) {x1 : Int32} {σ : St} {res : (Int32 × St)} (hf : F_mX11_spot x1 σ = some res) : Met l yX11_spot (Cond.code yX11_spot cX11_spot 2 (some .int) :: wsL_law) rm_X11_spot (Pcx D C (wM A C) adK adV (fxA A 33) [.ref (A 0), .int x1] σ) (Qcx D (wM A C) (fxA A 33) (some (.int res.1)) res.2) 0 0 (fxA A 33) := by
  refine Met.ofW (cc := cX11_spot) (maxL := 2) (ret := (some .int)) (by decide) rfl ?_
  intro p e s m args below meth c s₁ B hml hv
  obtain ⟨rfl, hP, hK, hZ⟩ := hv
  have cx : Cxx D C adK adV (fxA A 33) p s m _ meth c cX11_spot 2 RX11 (some .int) := ⟨B.exec, B.bytes, hml, findClass_of_methodNamed B.named, fun w h => atoms_spec (ws := Cond.code yX11_spot cX11_spot 2 (some .int) :: wsL_law) B.pre w (List.mem_cons_of_mem _ h), hK, B.returns, B.notSynchronized, hZ⟩
  obtain ⟨hx, hb, -, hown, hts, -, hr, hlk, -⟩ := id cx
  have hS : va_S (fxA A 33) s.heap s.heap [] := va_S.rf
  have hl := lv_entry ([.ref (A 0), .int x1]) (n := 2) (Nat.le_of_ble_eq_true rfl)
  rw [lg_entry_eq]
  generalize (lg_sl ([.ref (A 0), .int x1]) ++ List.replicate (2 - (lg_sl ([.ref (A 0), .int x1])).length) Slot.unset).toArray = ls at hl ⊢
  have hl : lv_has ls 2 [(0, .ref (A 0)), (1, .int x1)] := hl
  show W p l e rm_X11_spot s m _ below meth c s.heap [] 0 0 _ _
  refine lv_aload_n hx hb dX11_spot_0 rfl (lv_at hl 0 rfl) ?_
  refine lv_iload_n hx hb dX11_spot_1 rfl (lv_at hl 1 rfl) ?_
  obtain ⟨⟨r1, σ_r1⟩, h_r1, hf⟩ := bd_some hf
  refine cx_V (As := [.int x1]) (rest := []) cx (ct_mX11_isName l D C A adK adV hA h_r1) (cw_X11_241 hts ⟨Nat.le_of_ble_eq_true rfl, Nat.le_of_ble_eq_true rfl⟩) (va_recv hK hP (ci := 11) (q0 := 0) rfl (wM_0 A C _)) hP hS rfl hl.1 rfl (Nat.le_of_ble_eq_true rfl) dX11_spot_2 ⟨Nat.zero_le _, Nat.zero_le _⟩ (fun H locs hP hS => ?_)
  refine lv_if_eq (tgt := 17) hx hb dX11_spot_5 (by decide) (fun c2 => ?_) (fun c2 => ?_)
  · have hf := (if_pos c2).symm.trans hf
    refine lv_bipush (v := (-2)) hx hb dX11_spot_17 (by decide) ?_
    exact cx_iret cx hP hS hf dX11_spot_19
  · have hf := (if_neg c2).symm.trans hf
    refine lv_aload_n hx hb dX11_spot_8 rfl (lv_at hl 0 rfl) ?_
    refine gM_0_23 hx hb hts hown hK hP (hts _ kw_160) dX11_spot_9 ?_
    refine lv_iload_n hx hb dX11_spot_12 rfl (lv_at hl 1 rfl) ?_
    obtain ⟨z3, hf⟩ := gd_some hf
    refine gM_a7 hx hb hK hP (ib_in z3) (v := (σ_r1.2.1 7 x1.toNatClampNeg)) rfl dX11_spot_13 ?_
    refine lv_goto (tgt := 19) hx hb dX11_spot_14 (by decide) ?_
    exact cx_iret cx hP hS hf dX11_spot_19
set_option maxHeartbeats 4000000 in
set_option maxRecDepth 100000 in
theorem ct_mX11_isThere (l : Launch) (D : va_G) (C : Nat → ClassId) (A adK adV : Nat → Nat) (hA : apA A 33) {x1 : Int32} {σ : St} {res : (Int32 × St)} (hf : F_mX11_isThere x1 σ = some res) : Met l yX11_isThere (Cond.code yX11_isThere cX11_isThere 2 (some .boolean) :: wsL_law) rm_X11_isThere (Pcx D C (wM A C) adK adV (fxA A 33) [.ref (A 0), .int x1] σ) (Qcx D (wM A C) (fxA A 33) (some (.int res.1)) res.2) 0 0 (fxA A 33) := by
  refine Met.ofW (cc := cX11_isThere) (maxL := 2) (ret := (some .boolean)) (by decide) rfl ?_
  intro p e s m args below meth c s₁ B hml hv
  obtain ⟨rfl, hP, hK, hZ⟩ := hv
  have cx : Cxx D C adK adV (fxA A 33) p s m _ meth c cX11_isThere 2 RX11 (some .boolean) := ⟨B.exec, B.bytes, hml, findClass_of_methodNamed B.named, fun w h => atoms_spec (ws := Cond.code yX11_isThere cX11_isThere 2 (some .boolean) :: wsL_law) B.pre w (List.mem_cons_of_mem _ h), hK, B.returns, B.notSynchronized, hZ⟩
  obtain ⟨hx, hb, -, hown, hts, -, hr, hlk, -⟩ := id cx
  have hS : va_S (fxA A 33) s.heap s.heap [] := va_S.rf
  have hl := lv_entry ([.ref (A 0), .int x1]) (n := 2) (Nat.le_of_ble_eq_true rfl)
  rw [lg_entry_eq]
  generalize (lg_sl ([.ref (A 0), .int x1]) ++ List.replicate (2 - (lg_sl ([.ref (A 0), .int x1])).length) Slot.unset).toArray = ls at hl ⊢
  have hl : lv_has ls 2 [(0, .ref (A 0)), (1, .int x1)] := hl
  show W p l e rm_X11_isThere s m _ below meth c s.heap [] 0 0 _ _
  refine lv_iload_n hx hb dX11_isThere_0 rfl (lv_at hl 1 rfl) ?_
  refine lv_iconst (v := 0) hx hb dX11_isThere_1 (by decide) ?_
  refine lv_aload_n hx hb dX11_isThere_2 rfl (lv_at hl 0 rfl) ?_
  refine gM_0_11 hx hb hts hown hK hP (v := (σ.1 9)) rfl (hts _ kw_187) dX11_isThere_3 ?_
  refine lv_aload_n hx hb dX11_isThere_6 rfl (lv_at hl 0 rfl) ?_
  refine gM_0_10 hx hb hts hown hK hP (v := (σ.1 8)) rfl (hts _ kw_186) dX11_isThere_7 ?_
  refine lv_imul hx hb dX11_isThere_10 ?_
  refine lv_iconst (v := 1) hx hb dX11_isThere_11 (by decide) ?_
  refine lv_isub hx hb dX11_isThere_12 ?_
  obtain ⟨⟨r1, σ_r1⟩, h_r1, hf⟩ := bd_some hf
  refine cx_S (As := [.int x1, .int 0, .int (((σ.1 9) * (σ.1 8)) - 1)]) (rest := []) cx (ct_mX11_in l D C A adK adV hA h_r1) (cw_X11_181 hts ⟨Nat.le_of_ble_eq_true rfl, Nat.le_of_ble_eq_true rfl⟩) hP hS rfl hl.1 rfl (Nat.le_of_ble_eq_true rfl) dX11_isThere_13 ⟨Nat.zero_le _, Nat.zero_le _⟩ (fun H locs hP hS => ?_)
  refine lv_if_eq (tgt := 43) hx hb dX11_isThere_16 (by decide) (fun c2 => ?_) (fun c2 => ?_)
  · have hf := (if_pos c2).symm.trans hf
    refine lv_iconst (v := 0) hx hb dX11_isThere_43 (by decide) ?_
    exact cx_zret cx rfl hP hS hf dX11_isThere_44
  · have hf := (if_neg c2).symm.trans hf
    refine lv_iload_n hx hb dX11_isThere_19 rfl (lv_at hl 1 rfl) ?_
    refine lv_aload_n hx hb dX11_isThere_20 rfl (lv_at hl 0 rfl) ?_
    refine gM_0_10 hx hb hts hown hK hP (v := (σ_r1.1 8)) rfl (hts _ kw_186) dX11_isThere_21 ?_
    obtain ⟨z3, hf⟩ := gn_some hf
    refine lv_irem hx hb dX11_isThere_24 z3 ?_
    refine lv_aload_n hx hb dX11_isThere_25 rfl (lv_at hl 0 rfl) ?_
    refine gM_0_15 hx hb hts hown hK hP (hts _ kw_155) dX11_isThere_26 ?_
    refine lv_iload_n hx hb dX11_isThere_29 rfl (lv_at hl 1 rfl) ?_
    refine lv_aload_n hx hb dX11_isThere_30 rfl (lv_at hl 0 rfl) ?_
    refine gM_0_10 hx hb hts hown hK hP (v := (σ_r1.1 8)) rfl (hts _ kw_186) dX11_isThere_31 ?_
    refine lv_idiv hx hb dX11_isThere_34 z3 ?_
    obtain ⟨z4, hf⟩ := gd_some hf
    refine gM_a3 hx hb hK hP (ib_in z4) (v := (σ_r1.2.1 3 (x1 / (σ_r1.1 8)).toNatClampNeg)) rfl dX11_isThere_35 ?_
    refine lv_icmp_ge (tgt := 43) hx hb dX11_isThere_36 (by decide) (fun c5 => ?_) (fun c5 => ?_)
    · have hf := (if_pos c5).symm.trans hf
      refine lv_iconst (v := 0) hx hb dX11_isThere_43 (by decide) ?_
      exact cx_zret cx rfl hP hS hf dX11_isThere_44
    · have hf := (if_neg c5).symm.trans hf
      refine lv_iconst (v := 1) hx hb dX11_isThere_39 (by decide) ?_
      refine lv_goto (tgt := 44) hx hb dX11_isThere_40 (by decide) ?_
      exact cx_zret cx rfl hP hS hf dX11_isThere_44
set_option maxHeartbeats 4000000 in
set_option maxRecDepth 100000 in
theorem w_F_mX11_liesOn_2 {p : Program} {l : Launch} {e : Env} {s : State} {m : MethodId} {args : Array Value} {below : List Frame} {meth : Method} {c : Code} {D : va_G} {C : Nat → ClassId} {A adK adV : Nat → Nat} (hA : apA A 33) (cx : Cxx D C adK adV (fxA A 33) p s m args meth c cX11_liesOn 3 RX11 (some .int)) {res : (Int32 × St)} : ∀ (n : Nat), ∀ (x1 : Int32) (x2 : Int32) (σ : St) (H : Heap) (locs : List Loc) (ls : Array Slot), F_mX11_liesOn_2 n x1 x2 σ = some res → lv_has ls 3 [(0, .ref (A 0)), (1, .int x1), (2, .int x2)] → va_P D vwCl (wM A C σ) H → va_S (fxA A 33) s.heap H locs → W p l e rm_X11_liesOn s m args below meth c H locs 0 0 (MQ below (Qcx D (wM A C) (fxA A 33) (some (.int res.1)) res.2) args s 0 0 (fxA A 33)) (F0 m 2 ls []) := by
  obtain ⟨hx, hb, hml, hown, hts, hK, hr, hlk, hZ⟩ := id cx
  intro n
  induction n with
  | zero =>
    intro x1 x2 σ H locs ls hf hl hP hS
    exact absurd (show (none : Option (Int32 × St)) = some res from hf) (by intro h; cases h)
  | succ n ih =>
    intro x1 x2 σ H locs ls hf hl hP hS
    refine lv_iload_n hx hb dX11_liesOn_2 rfl (lv_at hl 2 rfl) ?_
    refine lv_aload_n hx hb dX11_liesOn_3 rfl (lv_at hl 0 rfl) ?_
    refine gM_0_17 hx hb hts hown hK hP (v := (σ.1 12)) rfl (hts _ kw_416) dX11_liesOn_4 ?_
    refine lv_icmp_ge (tgt := 28) hx hb dX11_liesOn_7 (by decide) (fun c1 => ?_) (fun c1 => ?_)
    · have hf := (if_pos c1).symm.trans hf
      refine lv_iconst (v := (-1)) hx hb dX11_liesOn_28 (by decide) ?_
      exact cx_iret cx hP hS hf dX11_liesOn_29
    · have hf := (if_neg c1).symm.trans hf
      refine lv_aload_n hx hb dX11_liesOn_10 rfl (lv_at hl 0 rfl) ?_
      refine gM_0_23 hx hb hts hown hK hP (hts _ kw_160) dX11_liesOn_11 ?_
      refine lv_iload_n hx hb dX11_liesOn_14 rfl (lv_at hl 2 rfl) ?_
      obtain ⟨z2, hf⟩ := gd_some hf
      refine gM_a7 hx hb hK hP (ib_in z2) (v := (σ.2.1 7 x2.toNatClampNeg)) rfl dX11_liesOn_15 ?_
      refine lv_iload_n hx hb dX11_liesOn_16 rfl (lv_at hl 1 rfl) ?_
      refine lv_icmp_ne (tgt := 22) hx hb dX11_liesOn_17 (by decide) (fun c3 => ?_) (fun c3 => ?_)
      · have hf := (if_neg c3).symm.trans hf
        refine lv_iinc (v := (x2 + 1)) (lv' := [(2, .int (x2 + 1)), (0, .ref (A 0)), (1, .int x1)]) hx hb dX11_liesOn_22 hl (k := 2) rfl rfl (by decide) rfl (fun ls hl => ?_)
        refine lv_goto (tgt := 2) hx hb dX11_liesOn_25 (by decide) ?_
        exact ih _ _ _ _ _ _ hf (lv_sub hl [1, 2, 0] rfl) hP hS
      · have hf := (if_pos c3).symm.trans hf
        refine lv_iload_n hx hb dX11_liesOn_20 rfl (lv_at hl 2 rfl) ?_
        exact cx_iret cx hP hS hf dX11_liesOn_21
set_option maxHeartbeats 4000000 in
set_option maxRecDepth 100000 in
theorem ct_mX11_liesOn (l : Launch) (D : va_G) (C : Nat → ClassId) (A adK adV : Nat → Nat) (hA : apA A 33) {x1 : Int32} {σ : St} {res : (Int32 × St)} (hf : F_mX11_liesOn x1 σ = some res) : Met l yX11_liesOn (Cond.code yX11_liesOn cX11_liesOn 3 (some .int) :: wsL_law) rm_X11_liesOn (Pcx D C (wM A C) adK adV (fxA A 33) [.ref (A 0), .int x1] σ) (Qcx D (wM A C) (fxA A 33) (some (.int res.1)) res.2) 0 0 (fxA A 33) := by
  refine Met.ofW (cc := cX11_liesOn) (maxL := 3) (ret := (some .int)) (by decide) rfl ?_
  intro p e s m args below meth c s₁ B hml hv
  obtain ⟨rfl, hP, hK, hZ⟩ := hv
  have cx : Cxx D C adK adV (fxA A 33) p s m _ meth c cX11_liesOn 3 RX11 (some .int) := ⟨B.exec, B.bytes, hml, findClass_of_methodNamed B.named, fun w h => atoms_spec (ws := Cond.code yX11_liesOn cX11_liesOn 3 (some .int) :: wsL_law) B.pre w (List.mem_cons_of_mem _ h), hK, B.returns, B.notSynchronized, hZ⟩
  obtain ⟨hx, hb, -, hown, hts, -, hr, hlk, -⟩ := id cx
  have hS : va_S (fxA A 33) s.heap s.heap [] := va_S.rf
  have hl := lv_entry ([.ref (A 0), .int x1]) (n := 3) (Nat.le_of_ble_eq_true rfl)
  rw [lg_entry_eq]
  generalize (lg_sl ([.ref (A 0), .int x1]) ++ List.replicate (3 - (lg_sl ([.ref (A 0), .int x1])).length) Slot.unset).toArray = ls at hl ⊢
  have hl : lv_has ls 3 [(0, .ref (A 0)), (1, .int x1)] := hl
  show W p l e rm_X11_liesOn s m _ below meth c s.heap [] 0 0 _ _
  refine lv_iconst (v := 0) hx hb dX11_liesOn_0 (by decide) ?_
  refine lv_istore_n (lv' := [(2, .int 0), (0, .ref (A 0)), (1, .int x1)]) hx hb dX11_liesOn_1 rfl hl (by decide) rfl (fun ls hl => ?_)
  exact w_F_mX11_liesOn_2 hA cx FU _ _ _ _ _ _ hf (lv_sub hl [1, 2, 0] rfl) hP hS
set_option maxHeartbeats 4000000 in
set_option maxRecDepth 100000 in
theorem w_F_mX11_lay_49 {p : Program} {l : Launch} {e : Env} {s : State} {m : MethodId} {args : Array Value} {below : List Frame} {meth : Method} {c : Code} {D : va_G} {C : Nat → ClassId} {A adK adV : Nat → Nat} (hA : apA A 33) (cx : Cxx D C adK adV (fxA A 33) p s m args meth c cX11_lay 4 RX11 (some .int)) {res : (Int32 × St)} : ∀ (x1 : Int32) (x2 : Int32) (σ : St) (H : Heap) (locs : List Loc) (ls : Array Slot), F_mX11_lay_49 x1 x2 σ = some res → lv_has ls 4 [(0, .ref (A 0)), (1, .int x1), (2, .int x2)] → va_P D vwCl (wM A C σ) H → va_S (fxA A 33) s.heap H locs → W p l e rm_X11_lay s m args below meth c H locs 0 0 (MQ below (Qcx D (wM A C) (fxA A 33) (some (.int res.1)) res.2) args s 0 0 (fxA A 33)) (F0 m 49 ls []) := by
  obtain ⟨hx, hb, hml, hown, hts, hK, hr, hlk, hZ⟩ := id cx
  intro x1 x2 σ H locs ls hf hl hP hS
  refine lv_aload_n hx hb dX11_lay_49 rfl (lv_at hl 0 rfl) ?_
  refine gM_0_23 hx hb hts hown hK hP (hts _ kw_160) dX11_lay_50 ?_
  refine lv_iload_n hx hb dX11_lay_53 rfl (lv_at hl 1 rfl) ?_
  obtain ⟨z1, hf⟩ := gd_some hf
  refine gM_a7 hx hb hK hP (ib_in z1) (v := (σ.2.1 7 x1.toNatClampNeg)) rfl dX11_lay_54 ?_
  refine lv_istore_n (lv' := [(3, .int (σ.2.1 7 x1.toNatClampNeg)), (0, .ref (A 0)), (1, .int x1), (2, .int x2)]) hx hb dX11_lay_55 rfl hl (by decide) rfl (fun ls hl => ?_)
  refine lv_aload_n hx hb dX11_lay_56 rfl (lv_at hl 1 rfl) ?_
  refine gM_0_23 hx hb hts hown hK hP (hts _ kw_160) dX11_lay_57 ?_
  refine lv_iload_n hx hb dX11_lay_60 rfl (lv_at hl 2 rfl) ?_
  refine lv_iload_n hx hb dX11_lay_61 rfl (lv_at hl 3 rfl) ?_
  refine pM_a7 hx hb hK hP hA hS (ib_in z1) dX11_lay_62 (fun H locs hP hS => ?_)
  refine lv_iload_n hx hb dX11_lay_63 rfl (lv_at hl 0 rfl) ?_
  have hP : va_P D vwCl (wM A C (sA σ 7 (upd (σ.2.1 7) x1.toNatClampNeg x2))) H := hP
  exact cx_iret cx hP hS hf dX11_lay_64
set_option maxHeartbeats 4000000 in
set_option maxRecDepth 100000 in
theorem ct_mX11_lay (l : Launch) (D : va_G) (C : Nat → ClassId) (A adK adV : Nat → Nat) (hA : apA A 33) {x1 : Int32} {x2 : Int32} {σ : St} {res : (Int32 × St)} (hf : F_mX11_lay x1 x2 σ = some res) : Met l yX11_lay (Cond.code yX11_lay cX11_lay 4 (some .int) :: wsL_law) rm_X11_lay (Pcx D C (wM A C) adK adV (fxA A 33) [.ref (A 0), .int x1, .int x2] σ) (Qcx D (wM A C) (fxA A 33) (some (.int res.1)) res.2) 0 0 (fxA A 33) := by
  refine Met.ofW (cc := cX11_lay) (maxL := 4) (ret := (some .int)) (by decide) rfl ?_
  intro p e s m args below meth c s₁ B hml hv
  obtain ⟨rfl, hP, hK, hZ⟩ := hv
  have cx : Cxx D C adK adV (fxA A 33) p s m _ meth c cX11_lay 4 RX11 (some .int) := ⟨B.exec, B.bytes, hml, findClass_of_methodNamed B.named, fun w h => atoms_spec (ws := Cond.code yX11_lay cX11_lay 4 (some .int) :: wsL_law) B.pre w (List.mem_cons_of_mem _ h), hK, B.returns, B.notSynchronized, hZ⟩
  obtain ⟨hx, hb, -, hown, hts, -, hr, hlk, -⟩ := id cx
  have hS : va_S (fxA A 33) s.heap s.heap [] := va_S.rf
  have hl := lv_entry ([.ref (A 0), .int x1, .int x2]) (n := 4) (Nat.le_of_ble_eq_true rfl)
  rw [lg_entry_eq]
  generalize (lg_sl ([.ref (A 0), .int x1, .int x2]) ++ List.replicate (4 - (lg_sl ([.ref (A 0), .int x1, .int x2])).length) Slot.unset).toArray = ls at hl ⊢
  have hl : lv_has ls 4 [(0, .ref (A 0)), (1, .int x1), (2, .int x2)] := hl
  show W p l e rm_X11_lay s m _ below meth c s.heap [] 0 0 _ _
  refine lv_aload_n hx hb dX11_lay_0 rfl (lv_at hl 0 rfl) ?_
  refine lv_iload_n hx hb dX11_lay_1 rfl (lv_at hl 1 rfl) ?_
  obtain ⟨⟨r2, σ_r2⟩, h_r2, hf⟩ := bd_some hf
  refine cx_V (As := [.int x1]) (rest := []) cx (ct_mX11_isName l D C A adK adV hA h_r2) (cw_X11_241 hts ⟨Nat.le_of_ble_eq_true rfl, Nat.le_of_ble_eq_true rfl⟩) (va_recv hK hP (ci := 11) (q0 := 0) rfl (wM_0 A C _)) hP hS rfl hl.1 rfl (Nat.le_of_ble_eq_true rfl) dX11_lay_2 ⟨Nat.zero_le _, Nat.zero_le _⟩ (fun H locs hP hS => ?_)
  refine lv_if_eq (tgt := 16) hx hb dX11_lay_5 (by decide) (fun c3 => ?_) (fun c3 => ?_)
  · have hf := (if_pos c3).symm.trans hf
    refine lv_bipush (v := (-2)) hx hb dX11_lay_16 (by decide) ?_
    exact cx_iret cx hP hS hf dX11_lay_18
  · have hf := (if_neg c3).symm.trans hf
    refine lv_aload_n hx hb dX11_lay_8 rfl (lv_at hl 0 rfl) ?_
    refine lv_iload_n hx hb dX11_lay_9 rfl (lv_at hl 2 rfl) ?_
    obtain ⟨⟨r4, σ_r4⟩, h_r4, hf⟩ := bd_some hf
    refine cx_V (As := [.int x2]) (rest := []) cx (ct_mX11_isThere l D C A adK adV hA h_r4) (cw_X11_197 hts ⟨Nat.le_of_ble_eq_true rfl, Nat.le_of_ble_eq_true rfl⟩) (va_recv hK hP (ci := 11) (q0 := 0) rfl (wM_0 A C _)) hP hS rfl hl.1 rfl (Nat.le_of_ble_eq_true rfl) dX11_lay_10 ⟨Nat.zero_le _, Nat.zero_le _⟩ (fun H locs hP hS => ?_)
    refine lv_if_ne (tgt := 19) hx hb dX11_lay_13 (by decide) (fun c5 => ?_) (fun c5 => ?_)
    · have hf := (if_neg c5).symm.trans hf
      refine lv_aload_n hx hb dX11_lay_19 rfl (lv_at hl 0 rfl) ?_
      refine gM_0_16 hx hb hts hown hK hP (hts _ kw_156) dX11_lay_20 ?_
      refine lv_iload_n hx hb dX11_lay_23 rfl (lv_at hl 2 rfl) ?_
      obtain ⟨z6, hf⟩ := gd_some hf
      refine gM_a4 hx hb hK hP (ib_in z6) (v := (σ_r4.2.1 4 x2.toNatClampNeg)) rfl dX11_lay_24 ?_
      refine lv_if_ne (tgt := 46) hx hb dX11_lay_25 (by decide) (fun c7 => ?_) (fun c7 => ?_)
      · have hf := (if_neg c7).symm.trans hf
        refine lv_bipush (v := (-4)) hx hb dX11_lay_46 (by decide) ?_
        exact cx_iret cx hP hS hf dX11_lay_48
      · have hf := (if_pos c7).symm.trans hf
        refine lv_aload_n hx hb dX11_lay_28 rfl (lv_at hl 0 rfl) ?_
        refine lv_iload_n hx hb dX11_lay_29 rfl (lv_at hl 2 rfl) ?_
        obtain ⟨⟨r8, σ_r8⟩, h_r8, hf⟩ := bd_some hf
        refine cx_V (As := [.int x2]) (rest := []) cx (ct_mX11_liesOn l D C A adK adV hA h_r8) (cw_X11_293 hts ⟨Nat.le_of_ble_eq_true rfl, Nat.le_of_ble_eq_true rfl⟩) (va_recv hK hP (ci := 11) (q0 := 0) rfl (wM_0 A C _)) hP hS rfl hl.1 rfl (Nat.le_of_ble_eq_true rfl) dX11_lay_30 ⟨Nat.zero_le _, Nat.zero_le _⟩ (fun H locs hP hS => ?_)
        refine lv_iconst (v := (-1)) hx hb dX11_lay_33 (by decide) ?_
        refine lv_icmp_eq (tgt := 49) hx hb dX11_lay_34 (by decide) (fun c9 => ?_) (fun c9 => ?_)
        · have hf := (if_pos c9).symm.trans hf
          exact w_F_mX11_lay_49 hA cx _ _ _ _ _ _ hf (lv_sub hl [0, 1, 2] rfl) hP hS
        · have hf := (if_neg c9).symm.trans hf
          refine lv_aload_n hx hb dX11_lay_37 rfl (lv_at hl 0 rfl) ?_
          refine lv_iload_n hx hb dX11_lay_38 rfl (lv_at hl 2 rfl) ?_
          obtain ⟨⟨r10, σ_r10⟩, h_r10, hf⟩ := bd_some hf
          refine cx_V (As := [.int x2]) (rest := []) cx (ct_mX11_liesOn l D C A adK adV hA h_r10) (cw_X11_293 hts ⟨Nat.le_of_ble_eq_true rfl, Nat.le_of_ble_eq_true rfl⟩) (va_recv hK hP (ci := 11) (q0 := 0) rfl (wM_0 A C _)) hP hS rfl hl.1 rfl (Nat.le_of_ble_eq_true rfl) dX11_lay_39 ⟨Nat.zero_le _, Nat.zero_le _⟩ (fun H locs hP hS => ?_)
          refine lv_iload_n hx hb dX11_lay_42 rfl (lv_at hl 1 rfl) ?_
          refine lv_icmp_eq (tgt := 49) hx hb dX11_lay_43 (by decide) (fun c11 => ?_) (fun c11 => ?_)
          · have hf := (if_pos c11).symm.trans hf
            exact w_F_mX11_lay_49 hA cx _ _ _ _ _ _ hf (lv_sub hl [0, 1, 2] rfl) hP hS
          · have hf := (if_neg c11).symm.trans hf
            refine lv_bipush (v := (-4)) hx hb dX11_lay_46 (by decide) ?_
            exact cx_iret cx hP hS hf dX11_lay_48
    · have hf := (if_pos c5).symm.trans hf
      refine lv_bipush (v := (-2)) hx hb dX11_lay_16 (by decide) ?_
      exact cx_iret cx hP hS hf dX11_lay_18
set_option maxHeartbeats 4000000 in
set_option maxRecDepth 100000 in
theorem ct_mX11_spoil (l : Launch) (D : va_G) (C : Nat → ClassId) (A adK adV : Nat → Nat) (hA : apA A 33) {x1 : Int32} {σ : St} {res : (Int32 × St)} (hf : F_mX11_spoil x1 σ = some res) : Met l yX11_spoil (Cond.code yX11_spoil cX11_spoil 2 (some .int) :: wsL_law) rm_X11_spoil (Pcx D C (wM A C) adK adV (fxA A 33) [.ref (A 0), .int x1] σ) (Qcx D (wM A C) (fxA A 33) (some (.int res.1)) res.2) 0 0 (fxA A 33) := by
  refine Met.ofW (cc := cX11_spoil) (maxL := 2) (ret := (some .int)) (by decide) rfl ?_
  intro p e s m args below meth c s₁ B hml hv
  obtain ⟨rfl, hP, hK, hZ⟩ := hv
  have cx : Cxx D C adK adV (fxA A 33) p s m _ meth c cX11_spoil 2 RX11 (some .int) := ⟨B.exec, B.bytes, hml, findClass_of_methodNamed B.named, fun w h => atoms_spec (ws := Cond.code yX11_spoil cX11_spoil 2 (some .int) :: wsL_law) B.pre w (List.mem_cons_of_mem _ h), hK, B.returns, B.notSynchronized, hZ⟩
  obtain ⟨hx, hb, -, hown, hts, -, hr, hlk, -⟩ := id cx
  have hS : va_S (fxA A 33) s.heap s.heap [] := va_S.rf
  have hl := lv_entry ([.ref (A 0), .int x1]) (n := 2) (Nat.le_of_ble_eq_true rfl)
  rw [lg_entry_eq]
  generalize (lg_sl ([.ref (A 0), .int x1]) ++ List.replicate (2 - (lg_sl ([.ref (A 0), .int x1])).length) Slot.unset).toArray = ls at hl ⊢
  have hl : lv_has ls 2 [(0, .ref (A 0)), (1, .int x1)] := hl
  show W p l e rm_X11_spoil s m _ below meth c s.heap [] 0 0 _ _
  refine lv_aload_n hx hb dX11_spoil_0 rfl (lv_at hl 0 rfl) ?_
  refine lv_iload_n hx hb dX11_spoil_1 rfl (lv_at hl 1 rfl) ?_
  obtain ⟨⟨r1, σ_r1⟩, h_r1, hf⟩ := bd_some hf
  refine cx_V (As := [.int x1]) (rest := []) cx (ct_mX11_isThere l D C A adK adV hA h_r1) (cw_X11_197 hts ⟨Nat.le_of_ble_eq_true rfl, Nat.le_of_ble_eq_true rfl⟩) (va_recv hK hP (ci := 11) (q0 := 0) rfl (wM_0 A C _)) hP hS rfl hl.1 rfl (Nat.le_of_ble_eq_true rfl) dX11_spoil_2 ⟨Nat.zero_le _, Nat.zero_le _⟩ (fun H locs hP hS => ?_)
  refine lv_if_ne (tgt := 11) hx hb dX11_spoil_5 (by decide) (fun c2 => ?_) (fun c2 => ?_)
  · have hf := (if_neg c2).symm.trans hf
    refine lv_aload_n hx hb dX11_spoil_11 rfl (lv_at hl 0 rfl) ?_
    refine gM_0_16 hx hb hts hown hK hP (hts _ kw_156) dX11_spoil_12 ?_
    refine lv_iload_n hx hb dX11_spoil_15 rfl (lv_at hl 1 rfl) ?_
    obtain ⟨z3, hf⟩ := gd_some hf
    refine gM_a4 hx hb hK hP (ib_in z3) (v := (σ_r1.2.1 4 x1.toNatClampNeg)) rfl dX11_spoil_16 ?_
    refine lv_if_eq (tgt := 23) hx hb dX11_spoil_17 (by decide) (fun c4 => ?_) (fun c4 => ?_)
    · have hf := (if_pos c4).symm.trans hf
      refine lv_aload_n hx hb dX11_spoil_23 rfl (lv_at hl 0 rfl) ?_
      refine gM_0_16 hx hb hts hown hK hP (hts _ kw_156) dX11_spoil_24 ?_
      refine lv_iload_n hx hb dX11_spoil_27 rfl (lv_at hl 1 rfl) ?_
      refine lv_iconst (v := 1) hx hb dX11_spoil_28 (by decide) ?_
      refine pM_a4 hx hb hK hP hA hS (ib_in z3) dX11_spoil_29 (fun H locs hP hS => ?_)
      refine lv_aload_n hx hb dX11_spoil_30 rfl (lv_at hl 0 rfl) ?_
      refine lv_iload_n hx hb dX11_spoil_31 rfl (lv_at hl 1 rfl) ?_
      have hP : va_P D vwCl (wM A C (sA σ_r1 4 (upd (σ_r1.2.1 4) x1.toNatClampNeg (vp_nar .boolean 1)))) H := hP
      obtain ⟨⟨r5, σ_r5⟩, h_r5, hf⟩ := bd_some hf
      refine cx_V (As := [.int x1]) (rest := []) cx (ct_mX11_liesOn l D C A adK adV hA h_r5) (cw_X11_293 hts ⟨Nat.le_of_ble_eq_true rfl, Nat.le_of_ble_eq_true rfl⟩) (va_recv hK hP (ci := 11) (q0 := 0) rfl (wM_0 A C _)) hP hS rfl hl.1 rfl (Nat.le_of_ble_eq_true rfl) dX11_spoil_32 ⟨Nat.zero_le _, Nat.zero_le _⟩ (fun H locs hP hS => ?_)
      exact cx_iret cx hP hS hf dX11_spoil_35
    · have hf := (if_neg c4).symm.trans hf
      refine lv_bipush (v := (-4)) hx hb dX11_spoil_20 (by decide) ?_
      exact cx_iret cx hP hS hf dX11_spoil_22
  · have hf := (if_pos c2).symm.trans hf
    refine lv_bipush (v := (-2)) hx hb dX11_spoil_8 (by decide) ?_
    exact cx_iret cx hP hS hf dX11_spoil_10
set_option maxHeartbeats 4000000 in
set_option maxRecDepth 100000 in
theorem ct_mX11_timeNow (l : Launch) (D : va_G) (C : Nat → ClassId) (A adK adV : Nat → Nat) (hA : apA A 33)  {σ : St} {res : (Int32 × St)} (hf : F_mX11_timeNow σ = some res) : Met l yX11_timeNow (Cond.code yX11_timeNow cX11_timeNow 1 (some .int) :: wsL_law) rm_X11_timeNow (Pcx D C (wM A C) adK adV (fxA A 33) [.ref (A 0)] σ) (Qcx D (wM A C) (fxA A 33) (some (.int res.1)) res.2) 0 0 (fxA A 33) := by
  refine Met.ofW (cc := cX11_timeNow) (maxL := 1) (ret := (some .int)) (by decide) rfl ?_
  intro p e s m args below meth c s₁ B hml hv
  obtain ⟨rfl, hP, hK, hZ⟩ := hv
  have cx : Cxx D C adK adV (fxA A 33) p s m _ meth c cX11_timeNow 1 RX11 (some .int) := ⟨B.exec, B.bytes, hml, findClass_of_methodNamed B.named, fun w h => atoms_spec (ws := Cond.code yX11_timeNow cX11_timeNow 1 (some .int) :: wsL_law) B.pre w (List.mem_cons_of_mem _ h), hK, B.returns, B.notSynchronized, hZ⟩
  obtain ⟨hx, hb, -, hown, hts, -, hr, hlk, -⟩ := id cx
  have hS : va_S (fxA A 33) s.heap s.heap [] := va_S.rf
  have hl := lv_entry ([.ref (A 0)]) (n := 1) (Nat.le_of_ble_eq_true rfl)
  rw [lg_entry_eq]
  generalize (lg_sl ([.ref (A 0)]) ++ List.replicate (1 - (lg_sl ([.ref (A 0)])).length) Slot.unset).toArray = ls at hl ⊢
  have hl : lv_has ls 1 [(0, .ref (A 0))] := hl
  show W p l e rm_X11_timeNow s m _ below meth c s.heap [] 0 0 _ _
  refine lv_aload_n hx hb dX11_timeNow_0 rfl (lv_at hl 0 rfl) ?_
  obtain ⟨σ_r1, h_r1, hf⟩ := bv_some hf
  refine cx_V (As := []) (rest := []) cx (ct_mX11_goes l D C A adK adV hA h_r1) (cw_X11_280 hts ⟨Nat.le_of_ble_eq_true rfl, Nat.le_of_ble_eq_true rfl⟩) (va_recv hK hP (ci := 11) (q0 := 0) rfl (wM_0 A C _)) hP hS rfl hl.1 rfl (Nat.le_of_ble_eq_true rfl) dX11_timeNow_1 ⟨Nat.zero_le _, Nat.zero_le _⟩ (fun H locs hP hS => ?_)
  refine lv_aload_n hx hb dX11_timeNow_4 rfl (lv_at hl 0 rfl) ?_
  refine gM_0_36 hx hb hts hown hK hP (v := (σ_r1.1 21)) rfl (hts _ kw_743) dX11_timeNow_5 ?_
  exact cx_iret cx hP hS hf dX11_timeNow_8
set_option maxHeartbeats 4000000 in
set_option maxRecDepth 100000 in
theorem ct_mX11_time (l : Launch) (D : va_G) (C : Nat → ClassId) (A adK adV : Nat → Nat) (hA : apA A 33)  {σ : St} {res : (Int32 × St)} (hf : F_mX11_time σ = some res) : Met l yX11_time (Cond.code yX11_time cX11_time 1 (some .int) :: wsL_law) rm_X11_time (Pcx D C (wM A C) adK adV (fxA A 33) [.ref (A 0)] σ) (Qcx D (wM A C) (fxA A 33) (some (.int res.1)) res.2) 0 0 (fxA A 33) := by
  refine Met.ofW (cc := cX11_time) (maxL := 1) (ret := (some .int)) (by decide) rfl ?_
  intro p e s m args below meth c s₁ B hml hv
  obtain ⟨rfl, hP, hK, hZ⟩ := hv
  have cx : Cxx D C adK adV (fxA A 33) p s m _ meth c cX11_time 1 RX11 (some .int) := ⟨B.exec, B.bytes, hml, findClass_of_methodNamed B.named, fun w h => atoms_spec (ws := Cond.code yX11_time cX11_time 1 (some .int) :: wsL_law) B.pre w (List.mem_cons_of_mem _ h), hK, B.returns, B.notSynchronized, hZ⟩
  obtain ⟨hx, hb, -, hown, hts, -, hr, hlk, -⟩ := id cx
  have hS : va_S (fxA A 33) s.heap s.heap [] := va_S.rf
  have hl := lv_entry ([.ref (A 0)]) (n := 1) (Nat.le_of_ble_eq_true rfl)
  rw [lg_entry_eq]
  generalize (lg_sl ([.ref (A 0)]) ++ List.replicate (1 - (lg_sl ([.ref (A 0)])).length) Slot.unset).toArray = ls at hl ⊢
  have hl : lv_has ls 1 [(0, .ref (A 0))] := hl
  show W p l e rm_X11_time s m _ below meth c s.heap [] 0 0 _ _
  refine lv_aload_n hx hb dX11_time_0 rfl (lv_at hl 0 rfl) ?_
  refine gM_0_17 hx hb hts hown hK hP (v := (σ.1 12)) rfl (hts _ kw_416) dX11_time_1 ?_
  refine lv_if_ne (tgt := 12) hx hb dX11_time_4 (by decide) (fun c1 => ?_) (fun c1 => ?_)
  · have hf := (if_neg c1).symm.trans hf
    refine lv_aload_n hx hb dX11_time_12 rfl (lv_at hl 0 rfl) ?_
    obtain ⟨⟨r2, σ_r2⟩, h_r2, hf⟩ := bd_some hf
    refine cx_V (As := []) (rest := []) cx (ct_mX11_timeNow l D C A adK adV hA h_r2) (cw_X11_296 hts ⟨Nat.le_of_ble_eq_true rfl, Nat.le_of_ble_eq_true rfl⟩) (va_recv hK hP (ci := 11) (q0 := 0) rfl (wM_0 A C _)) hP hS rfl hl.1 rfl (Nat.le_of_ble_eq_true rfl) dX11_time_13 ⟨Nat.zero_le _, Nat.zero_le _⟩ (fun H locs hP hS => ?_)
    exact cx_iret cx hP hS hf dX11_time_16
  · have hf := (if_pos c1).symm.trans hf
    refine lv_bipush (v := (-4)) hx hb dX11_time_7 (by decide) ?_
    refine lv_goto (tgt := 16) hx hb dX11_time_9 (by decide) ?_
    exact cx_iret cx hP hS hf dX11_time_16
set_option maxHeartbeats 4000000 in
set_option maxRecDepth 100000 in
theorem w_F_mX11_place_85 {p : Program} {l : Launch} {e : Env} {s : State} {m : MethodId} {args : Array Value} {below : List Frame} {meth : Method} {c : Code} {D : va_G} {C : Nat → ClassId} {A adK adV : Nat → Nat} (hA : apA A 33) (cx : Cxx D C adK adV (fxA A 33) p s m args meth c cX11_place 7 RX11 (some .int)) {res : (Int32 × St)} {b26 : Int32 → Int32 → Int32 → Int32 → Int32 → St → Option (Int32 × St)} (hb26 : ∀ (x1 : Int32) (x2 : Int32) (x3 : Int32) (x4 : Int32) (x5 : Int32) (σ : St) (H : Heap) (locs : List Loc) (ls : Array Slot), b26 x1 x2 x3 x4 x5 σ = some res → lv_has ls 7 [(0, .ref (A 0)), (1, .int x1), (2, .int x2), (3, .int x3), (4, .int x4), (5, .int x5)] → va_P D vwCl (wM A C σ) H → va_S (fxA A 33) s.heap H locs → W p l e rm_X11_place s m args below meth c H locs 0 0 (MQ below (Qcx D (wM A C) (fxA A 33) (some (.int res.1)) res.2) args s 0 0 (fxA A 33)) (F0 m 26 ls [])) : ∀ (x1 : Int32) (x2 : Int32) (x3 : Int32) (x4 : Int32) (x5 : Int32) (σ : St) (H : Heap) (locs : List Loc) (ls : Array Slot), F_mX11_place_85 b26 x1 x2 x3 x4 x5 σ = some res → lv_has ls 7 [(0, .ref (A 0)), (1, .int x1), (2, .int x2), (3, .int x3), (4, .int x4), (5, .int x5)] → va_P D vwCl (wM A C σ) H → va_S (fxA A 33) s.heap H locs → W p l e rm_X11_place s m args below meth c H locs 0 0 (MQ below (Qcx D (wM A C) (fxA A 33) (some (.int res.1)) res.2) args s 0 0 (fxA A 33)) (F0 m 85 ls []) := by
  obtain ⟨hx, hb, hml, hown, hts, hK, hr, hlk, hZ⟩ := id cx
  intro x1 x2 x3 x4 x5 σ H locs ls hf hl hP hS
  refine lv_aload_n hx hb dX11_place_85 rfl (lv_at hl 0 rfl) ?_
  refine gM_0_23 hx hb hts hown hK hP (hts _ kw_160) dX11_place_86 ?_
  refine lv_iload_n hx hb dX11_place_89 rfl (lv_at hl 1 rfl) ?_
  refine lv_iload hx hb dX11_place_90 (lv_at hl 5 rfl) ?_
  obtain ⟨z1, hf⟩ := gd_some hf
  refine pM_a7 hx hb hK hP hA hS (ib_in z1) dX11_place_92 (fun H locs hP hS => ?_)
  refine lv_aload_n hx hb dX11_place_93 rfl (lv_at hl 0 rfl) ?_
  have hP : va_P D vwCl (wM A C (sA σ 7 (upd (σ.2.1 7) x1.toNatClampNeg x5))) H := hP
  obtain ⟨⟨r2, σ_r2⟩, h_r2, hf⟩ := bd_some hf
  refine cx_V (As := []) (rest := []) cx (ct_mX11_timeNow l D C A adK adV hA h_r2) (cw_X11_296 hts ⟨Nat.le_of_ble_eq_true rfl, Nat.le_of_ble_eq_true rfl⟩) (va_recv hK hP (ci := 11) (q0 := 0) rfl (wM_0 A C _)) hP hS rfl hl.1 rfl (Nat.le_of_ble_eq_true rfl) dX11_place_94 ⟨Nat.zero_le _, Nat.zero_le _⟩ (fun H locs hP hS => ?_)
  refine lv_istore (lv' := [(6, .int r2), (0, .ref (A 0)), (1, .int x1), (2, .int x2), (3, .int x3), (4, .int x4), (5, .int x5)]) hx hb dX11_place_97 hl (by decide) rfl (fun ls hl => ?_)
  refine lv_iload_n hx hb dX11_place_99 rfl (lv_at hl 4 rfl) ?_
  refine lv_iconst (v := (-1)) hx hb dX11_place_100 (by decide) ?_
  refine lv_icmp_eq (tgt := 114) hx hb dX11_place_101 (by decide) (fun c3 => ?_) (fun c3 => ?_)
  · have hf := (if_pos c3).symm.trans hf
    refine lv_iload hx hb dX11_place_114 (lv_at hl 6 rfl) ?_
    refine lv_istore_n (lv' := [(3, .int x5), (6, .int r2), (0, .ref (A 0)), (1, .int x1), (2, .int x2), (4, .int x4), (5, .int x5)]) hx hb dX11_place_116 rfl hl (by decide) rfl (fun ls hl => ?_)
    refine lv_iload hx hb dX11_place_117 (lv_at hl 1 rfl) ?_
    refine lv_istore (lv' := [(4, .int r2), (3, .int x5), (6, .int r2), (0, .ref (A 0)), (1, .int x1), (2, .int x2), (5, .int x5)]) hx hb dX11_place_119 hl (by decide) rfl (fun ls hl => ?_)
    refine lv_iinc (v := (x5 + 1)) (lv' := [(5, .int (x5 + 1)), (4, .int r2), (3, .int x5), (6, .int r2), (0, .ref (A 0)), (1, .int x1), (2, .int x2)]) hx hb dX11_place_121 hl (k := 6) rfl rfl (by decide) rfl (fun ls hl => ?_)
    refine lv_goto (tgt := 26) hx hb dX11_place_124 (by decide) ?_
    exact hb26 _ _ _ _ _ _ _ _ _ hf (lv_sub hl [4, 5, 6, 2, 1, 0] rfl) hP hS
  · have hf := (if_neg c3).symm.trans hf
    refine lv_iload hx hb dX11_place_104 (lv_at hl 0 rfl) ?_
    refine lv_iload hx hb dX11_place_106 (lv_at hl 5 rfl) ?_
    refine lv_icmp_lt (tgt := 114) hx hb dX11_place_108 (by decide) (fun c4 => ?_) (fun c4 => ?_)
    · have hf := (if_pos c4).symm.trans hf
      refine lv_iload hx hb dX11_place_114 (lv_at hl 6 rfl) ?_
      refine lv_istore_n (lv' := [(3, .int x5), (6, .int r2), (0, .ref (A 0)), (1, .int x1), (2, .int x2), (4, .int x4), (5, .int x5)]) hx hb dX11_place_116 rfl hl (by decide) rfl (fun ls hl => ?_)
      refine lv_iload hx hb dX11_place_117 (lv_at hl 1 rfl) ?_
      refine lv_istore (lv' := [(4, .int r2), (3, .int x5), (6, .int r2), (0, .ref (A 0)), (1, .int x1), (2, .int x2), (5, .int x5)]) hx hb dX11_place_119 hl (by decide) rfl (fun ls hl => ?_)
      refine lv_iinc (v := (x5 + 1)) (lv' := [(5, .int (x5 + 1)), (4, .int r2), (3, .int x5), (6, .int r2), (0, .ref (A 0)), (1, .int x1), (2, .int x2)]) hx hb dX11_place_121 hl (k := 6) rfl rfl (by decide) rfl (fun ls hl => ?_)
      refine lv_goto (tgt := 26) hx hb dX11_place_124 (by decide) ?_
      exact hb26 _ _ _ _ _ _ _ _ _ hf (lv_sub hl [4, 5, 6, 2, 1, 0] rfl) hP hS
    · have hf := (if_neg c4).symm.trans hf
      refine lv_goto (tgt := 121) hx hb dX11_place_111 (by decide) ?_
      refine lv_iinc (v := (x5 + 1)) (lv' := [(5, .int (x5 + 1)), (6, .int r2), (0, .ref (A 0)), (1, .int x1), (2, .int x2), (3, .int x3), (4, .int x4)]) hx hb dX11_place_121 hl (k := 6) rfl rfl (by decide) rfl (fun ls hl => ?_)
      refine lv_goto (tgt := 26) hx hb dX11_place_124 (by decide) ?_
      exact hb26 _ _ _ _ _ _ _ _ _ hf (lv_sub hl [2, 3, 4, 5, 6, 0] rfl) hP hS
set_option maxHeartbeats 4000000 in
set_option maxRecDepth 100000 in
theorem w_F_mX11_place_26 {p : Program} {l : Launch} {e : Env} {s : State} {m : MethodId} {args : Array Value} {below : List Frame} {meth : Method} {c : Code} {D : va_G} {C : Nat → ClassId} {A adK adV : Nat → Nat} (hA : apA A 33) (cx : Cxx D C adK adV (fxA A 33) p s m args meth c cX11_place 7 RX11 (some .int)) {res : (Int32 × St)} : ∀ (n : Nat), ∀ (x1 : Int32) (x2 : Int32) (x3 : Int32) (x4 : Int32) (x5 : Int32) (σ : St) (H : Heap) (locs : List Loc) (ls : Array Slot), F_mX11_place_26 n x1 x2 x3 x4 x5 σ = some res → lv_has ls 7 [(0, .ref (A 0)), (1, .int x1), (2, .int x2), (3, .int x3), (4, .int x4), (5, .int x5)] → va_P D vwCl (wM A C σ) H → va_S (fxA A 33) s.heap H locs → W p l e rm_X11_place s m args below meth c H locs 0 0 (MQ below (Qcx D (wM A C) (fxA A 33) (some (.int res.1)) res.2) args s 0 0 (fxA A 33)) (F0 m 26 ls []) := by
  obtain ⟨hx, hb, hml, hown, hts, hK, hr, hlk, hZ⟩ := id cx
  intro n
  induction n with
  | zero =>
    intro x1 x2 x3 x4 x5 σ H locs ls hf hl hP hS
    exact absurd (show (none : Option (Int32 × St)) = some res from hf) (by intro h; cases h)
  | succ n ih =>
    intro x1 x2 x3 x4 x5 σ H locs ls hf hl hP hS
    refine lv_iload hx hb dX11_place_26 (lv_at hl 5 rfl) ?_
    refine lv_aload_n hx hb dX11_place_28 rfl (lv_at hl 0 rfl) ?_
    refine gM_0_11 hx hb hts hown hK hP (v := (σ.1 9)) rfl (hts _ kw_187) dX11_place_29 ?_
    refine lv_aload_n hx hb dX11_place_32 rfl (lv_at hl 0 rfl) ?_
    refine gM_0_10 hx hb hts hown hK hP (v := (σ.1 8)) rfl (hts _ kw_186) dX11_place_33 ?_
    refine lv_imul hx hb dX11_place_36 ?_
    refine lv_icmp_ge (tgt := 127) hx hb dX11_place_37 (by decide) (fun c5 => ?_) (fun c5 => ?_)
    · have hf := (if_pos c5).symm.trans hf
      refine lv_aload_n hx hb dX11_place_127 rfl (lv_at hl 0 rfl) ?_
      refine gM_0_23 hx hb hts hown hK hP (hts _ kw_160) dX11_place_128 ?_
      refine lv_iload_n hx hb dX11_place_131 rfl (lv_at hl 1 rfl) ?_
      refine lv_iload_n hx hb dX11_place_132 rfl (lv_at hl 2 rfl) ?_
      obtain ⟨z6, hf⟩ := gd_some hf
      refine pM_a7 hx hb hK hP hA hS (ib_in z6) dX11_place_133 (fun H locs hP hS => ?_)
      refine lv_iload_n hx hb dX11_place_134 rfl (lv_at hl 3 rfl) ?_
      have hP : va_P D vwCl (wM A C (sA σ 7 (upd (σ.2.1 7) x1.toNatClampNeg x2))) H := hP
      exact cx_iret cx hP hS hf dX11_place_135
    · have hf := (if_neg c5).symm.trans hf
      refine lv_aload_n hx hb dX11_place_40 rfl (lv_at hl 0 rfl) ?_
      refine gM_0_23 hx hb hts hown hK hP (hts _ kw_160) dX11_place_41 ?_
      refine lv_iload_n hx hb dX11_place_44 rfl (lv_at hl 1 rfl) ?_
      refine lv_iload_n hx hb dX11_place_45 rfl (lv_at hl 2 rfl) ?_
      obtain ⟨z7, hf⟩ := gd_some hf
      refine pM_a7 hx hb hK hP hA hS (ib_in z7) dX11_place_46 (fun H locs hP hS => ?_)
      refine lv_aload_n hx hb dX11_place_47 rfl (lv_at hl 0 rfl) ?_
      refine lv_iload hx hb dX11_place_48 (lv_at hl 5 rfl) ?_
      have hP : va_P D vwCl (wM A C (sA σ 7 (upd (σ.2.1 7) x1.toNatClampNeg x2))) H := hP
      obtain ⟨⟨r8, σ_r8⟩, h_r8, hf⟩ := bd_some hf
      refine cx_V (As := [.int x5]) (rest := []) cx (ct_mX11_isThere l D C A adK adV hA h_r8) (cw_X11_197 hts ⟨Nat.le_of_ble_eq_true rfl, Nat.le_of_ble_eq_true rfl⟩) (va_recv hK hP (ci := 11) (q0 := 0) rfl (wM_0 A C _)) hP hS rfl hl.1 rfl (Nat.le_of_ble_eq_true rfl) dX11_place_50 ⟨Nat.zero_le _, Nat.zero_le _⟩ (fun H locs hP hS => ?_)
      refine lv_if_eq (tgt := 121) hx hb dX11_place_53 (by decide) (fun c9 => ?_) (fun c9 => ?_)
      · have hf := (if_pos c9).symm.trans hf
        refine lv_iinc (v := (x5 + 1)) (lv' := [(5, .int (x5 + 1)), (0, .ref (A 0)), (1, .int x1), (2, .int x2), (3, .int x3), (4, .int x4)]) hx hb dX11_place_121 hl (k := 5) rfl rfl (by decide) rfl (fun ls hl => ?_)
        refine lv_goto (tgt := 26) hx hb dX11_place_124 (by decide) ?_
        exact ih _ _ _ _ _ _ _ _ _ hf (lv_sub hl [1, 2, 3, 4, 5, 0] rfl) hP hS
      · have hf := (if_neg c9).symm.trans hf
        refine lv_aload_n hx hb dX11_place_56 rfl (lv_at hl 0 rfl) ?_
        refine gM_0_16 hx hb hts hown hK hP (hts _ kw_156) dX11_place_57 ?_
        refine lv_iload hx hb dX11_place_60 (lv_at hl 5 rfl) ?_
        obtain ⟨z10, hf⟩ := gd_some hf
        refine gM_a4 hx hb hK hP (ib_in z10) (v := (σ_r8.2.1 4 x5.toNatClampNeg)) rfl dX11_place_62 ?_
        refine lv_if_ne (tgt := 121) hx hb dX11_place_63 (by decide) (fun c11 => ?_) (fun c11 => ?_)
        · have hf := (if_neg c11).symm.trans hf
          refine lv_iinc (v := (x5 + 1)) (lv' := [(5, .int (x5 + 1)), (0, .ref (A 0)), (1, .int x1), (2, .int x2), (3, .int x3), (4, .int x4)]) hx hb dX11_place_121 hl (k := 5) rfl rfl (by decide) rfl (fun ls hl => ?_)
          refine lv_goto (tgt := 26) hx hb dX11_place_124 (by decide) ?_
          exact ih _ _ _ _ _ _ _ _ _ hf (lv_sub hl [1, 2, 3, 4, 5, 0] rfl) hP hS
        · have hf := (if_pos c11).symm.trans hf
          refine lv_iload hx hb dX11_place_66 (lv_at hl 5 rfl) ?_
          refine lv_iload_n hx hb dX11_place_68 rfl (lv_at hl 2 rfl) ?_
          refine lv_icmp_eq (tgt := 85) hx hb dX11_place_69 (by decide) (fun c12 => ?_) (fun c12 => ?_)
          · have hf := (if_pos c12).symm.trans hf
            exact w_F_mX11_place_85 hA cx ih _ _ _ _ _ _ _ _ _ hf (lv_sub hl [0, 1, 2, 3, 4, 5] rfl) hP hS
          · have hf := (if_neg c12).symm.trans hf
            refine lv_aload_n hx hb dX11_place_72 rfl (lv_at hl 0 rfl) ?_
            refine lv_iload hx hb dX11_place_73 (lv_at hl 5 rfl) ?_
            obtain ⟨⟨r13, σ_r13⟩, h_r13, hf⟩ := bd_some hf
            refine cx_V (As := [.int x5]) (rest := []) cx (ct_mX11_liesOn l D C A adK adV hA h_r13) (cw_X11_293 hts ⟨Nat.le_of_ble_eq_true rfl, Nat.le_of_ble_eq_true rfl⟩) (va_recv hK hP (ci := 11) (q0 := 0) rfl (wM_0 A C _)) hP hS rfl hl.1 rfl (Nat.le_of_ble_eq_true rfl) dX11_place_75 ⟨Nat.zero_le _, Nat.zero_le _⟩ (fun H locs hP hS => ?_)
            refine lv_iconst (v := (-1)) hx hb dX11_place_78 (by decide) ?_
            refine lv_icmp_eq (tgt := 85) hx hb dX11_place_79 (by decide) (fun c14 => ?_) (fun c14 => ?_)
            · have hf := (if_pos c14).symm.trans hf
              exact w_F_mX11_place_85 hA cx ih _ _ _ _ _ _ _ _ _ hf (lv_sub hl [0, 1, 2, 3, 4, 5] rfl) hP hS
            · have hf := (if_neg c14).symm.trans hf
              refine lv_goto (tgt := 121) hx hb dX11_place_82 (by decide) ?_
              refine lv_iinc (v := (x5 + 1)) (lv' := [(5, .int (x5 + 1)), (0, .ref (A 0)), (1, .int x1), (2, .int x2), (3, .int x3), (4, .int x4)]) hx hb dX11_place_121 hl (k := 5) rfl rfl (by decide) rfl (fun ls hl => ?_)
              refine lv_goto (tgt := 26) hx hb dX11_place_124 (by decide) ?_
              exact ih _ _ _ _ _ _ _ _ _ hf (lv_sub hl [1, 2, 3, 4, 5, 0] rfl) hP hS
set_option maxHeartbeats 4000000 in
set_option maxRecDepth 100000 in
theorem ct_mX11_place (l : Launch) (D : va_G) (C : Nat → ClassId) (A adK adV : Nat → Nat) (hA : apA A 33) {x1 : Int32} {σ : St} {res : (Int32 × St)} (hf : F_mX11_place x1 σ = some res) : Met l yX11_place (Cond.code yX11_place cX11_place 7 (some .int) :: wsL_law) rm_X11_place (Pcx D C (wM A C) adK adV (fxA A 33) [.ref (A 0), .int x1] σ) (Qcx D (wM A C) (fxA A 33) (some (.int res.1)) res.2) 0 0 (fxA A 33) := by
  refine Met.ofW (cc := cX11_place) (maxL := 7) (ret := (some .int)) (by decide) rfl ?_
  intro p e s m args below meth c s₁ B hml hv
  obtain ⟨rfl, hP, hK, hZ⟩ := hv
  have cx : Cxx D C adK adV (fxA A 33) p s m _ meth c cX11_place 7 RX11 (some .int) := ⟨B.exec, B.bytes, hml, findClass_of_methodNamed B.named, fun w h => atoms_spec (ws := Cond.code yX11_place cX11_place 7 (some .int) :: wsL_law) B.pre w (List.mem_cons_of_mem _ h), hK, B.returns, B.notSynchronized, hZ⟩
  obtain ⟨hx, hb, -, hown, hts, -, hr, hlk, -⟩ := id cx
  have hS : va_S (fxA A 33) s.heap s.heap [] := va_S.rf
  have hl := lv_entry ([.ref (A 0), .int x1]) (n := 7) (Nat.le_of_ble_eq_true rfl)
  rw [lg_entry_eq]
  generalize (lg_sl ([.ref (A 0), .int x1]) ++ List.replicate (7 - (lg_sl ([.ref (A 0), .int x1])).length) Slot.unset).toArray = ls at hl ⊢
  have hl : lv_has ls 7 [(0, .ref (A 0)), (1, .int x1)] := hl
  show W p l e rm_X11_place s m _ below meth c s.heap [] 0 0 _ _
  refine lv_aload_n hx hb dX11_place_0 rfl (lv_at hl 0 rfl) ?_
  refine lv_iload_n hx hb dX11_place_1 rfl (lv_at hl 1 rfl) ?_
  obtain ⟨⟨r15, σ_r15⟩, h_r15, hf⟩ := bd_some hf
  refine cx_V (As := [.int x1]) (rest := []) cx (ct_mX11_isName l D C A adK adV hA h_r15) (cw_X11_241 hts ⟨Nat.le_of_ble_eq_true rfl, Nat.le_of_ble_eq_true rfl⟩) (va_recv hK hP (ci := 11) (q0 := 0) rfl (wM_0 A C _)) hP hS rfl hl.1 rfl (Nat.le_of_ble_eq_true rfl) dX11_place_2 ⟨Nat.zero_le _, Nat.zero_le _⟩ (fun H locs hP hS => ?_)
  refine lv_if_ne (tgt := 11) hx hb dX11_place_5 (by decide) (fun c16 => ?_) (fun c16 => ?_)
  · have hf := (if_neg c16).symm.trans hf
    refine lv_aload_n hx hb dX11_place_11 rfl (lv_at hl 0 rfl) ?_
    refine gM_0_23 hx hb hts hown hK hP (hts _ kw_160) dX11_place_12 ?_
    refine lv_iload_n hx hb dX11_place_15 rfl (lv_at hl 1 rfl) ?_
    obtain ⟨z17, hf⟩ := gd_some hf
    refine gM_a7 hx hb hK hP (ib_in z17) (v := (σ_r15.2.1 7 x1.toNatClampNeg)) rfl dX11_place_16 ?_
    refine lv_istore_n (lv' := [(2, .int (σ_r15.2.1 7 x1.toNatClampNeg)), (0, .ref (A 0)), (1, .int x1)]) hx hb dX11_place_17 rfl hl (by decide) rfl (fun ls hl => ?_)
    refine lv_iconst (v := (-1)) hx hb dX11_place_18 (by decide) ?_
    refine lv_istore_n (lv' := [(3, .int (-1)), (2, .int (σ_r15.2.1 7 x1.toNatClampNeg)), (0, .ref (A 0)), (1, .int x1)]) hx hb dX11_place_19 rfl hl (by decide) rfl (fun ls hl => ?_)
    refine lv_iconst (v := 0) hx hb dX11_place_20 (by decide) ?_
    refine lv_istore (lv' := [(4, .int 0), (3, .int (-1)), (2, .int (σ_r15.2.1 7 x1.toNatClampNeg)), (0, .ref (A 0)), (1, .int x1)]) hx hb dX11_place_21 hl (by decide) rfl (fun ls hl => ?_)
    refine lv_iconst (v := 0) hx hb dX11_place_23 (by decide) ?_
    refine lv_istore (lv' := [(5, .int 0), (4, .int 0), (3, .int (-1)), (2, .int (σ_r15.2.1 7 x1.toNatClampNeg)), (0, .ref (A 0)), (1, .int x1)]) hx hb dX11_place_24 hl (by decide) rfl (fun ls hl => ?_)
    exact w_F_mX11_place_26 hA cx FU _ _ _ _ _ _ _ _ _ hf (lv_sub hl [4, 5, 3, 2, 1, 0] rfl) hP hS
  · have hf := (if_pos c16).symm.trans hf
    refine lv_bipush (v := (-2)) hx hb dX11_place_8 (by decide) ?_
    exact cx_iret cx hP hS hf dX11_place_10
set_option maxHeartbeats 4000000 in
set_option maxRecDepth 100000 in
theorem w_F_mX11_mend_14 {p : Program} {l : Launch} {e : Env} {s : State} {m : MethodId} {args : Array Value} {below : List Frame} {meth : Method} {c : Code} {D : va_G} {C : Nat → ClassId} {A adK adV : Nat → Nat} (hA : apA A 33) (cx : Cxx D C adK adV (fxA A 33) p s m args meth c cX11_mend 4 RX11 (some .int)) {res : (Int32 × St)} : ∀ (n : Nat), ∀ (x1 : Int32) (x2 : Int32) (σ : St) (H : Heap) (locs : List Loc) (ls : Array Slot), F_mX11_mend_14 n x1 x2 σ = some res → lv_has ls 4 [(0, .ref (A 0)), (1, .int x1), (2, .int x2)] → va_P D vwCl (wM A C σ) H → va_S (fxA A 33) s.heap H locs → W p l e rm_X11_mend s m args below meth c H locs 0 0 (MQ below (Qcx D (wM A C) (fxA A 33) (some (.int res.1)) res.2) args s 0 0 (fxA A 33)) (F0 m 14 ls []) := by
  obtain ⟨hx, hb, hml, hown, hts, hK, hr, hlk, hZ⟩ := id cx
  intro n
  induction n with
  | zero =>
    intro x1 x2 σ H locs ls hf hl hP hS
    exact absurd (show (none : Option (Int32 × St)) = some res from hf) (by intro h; cases h)
  | succ n ih =>
    intro x1 x2 σ H locs ls hf hl hP hS
    refine lv_iload_n hx hb dX11_mend_14 rfl (lv_at hl 2 rfl) ?_
    refine lv_aload_n hx hb dX11_mend_15 rfl (lv_at hl 0 rfl) ?_
    refine gM_0_17 hx hb hts hown hK hP (v := (σ.1 12)) rfl (hts _ kw_416) dX11_mend_16 ?_
    refine lv_icmp_ge (tgt := 69) hx hb dX11_mend_19 (by decide) (fun c1 => ?_) (fun c1 => ?_)
    · have hf := (if_pos c1).symm.trans hf
      refine lv_iload_n hx hb dX11_mend_69 rfl (lv_at hl 1 rfl) ?_
      exact cx_iret cx hP hS hf dX11_mend_70
    · have hf := (if_neg c1).symm.trans hf
      refine lv_aload_n hx hb dX11_mend_22 rfl (lv_at hl 0 rfl) ?_
      refine gM_0_16 hx hb hts hown hK hP (hts _ kw_156) dX11_mend_23 ?_
      refine lv_aload_n hx hb dX11_mend_26 rfl (lv_at hl 0 rfl) ?_
      refine gM_0_23 hx hb hts hown hK hP (hts _ kw_160) dX11_mend_27 ?_
      refine lv_iload_n hx hb dX11_mend_30 rfl (lv_at hl 2 rfl) ?_
      obtain ⟨z2, hf⟩ := gd_some hf
      refine gM_a7 hx hb hK hP (ib_in z2) (v := (σ.2.1 7 x2.toNatClampNeg)) rfl dX11_mend_31 ?_
      obtain ⟨z3, hf⟩ := gd_some hf
      refine gM_a4 hx hb hK hP (ib_in z3) (v := (σ.2.1 4 (σ.2.1 7 x2.toNatClampNeg).toNatClampNeg)) rfl dX11_mend_32 ?_
      refine lv_if_ne (tgt := 39) hx hb dX11_mend_33 (by decide) (fun c4 => ?_) (fun c4 => ?_)
      · have hf := (if_neg c4).symm.trans hf
        refine lv_aload_n hx hb dX11_mend_39 rfl (lv_at hl 0 rfl) ?_
        refine lv_iload_n hx hb dX11_mend_40 rfl (lv_at hl 2 rfl) ?_
        obtain ⟨⟨r5, σ_r5⟩, h_r5, hf⟩ := bd_some hf
        refine cx_V (As := [.int x2]) (rest := []) cx (ct_mX11_place l D C A adK adV hA h_r5) (cw_X11_299 hts ⟨Nat.le_of_ble_eq_true rfl, Nat.le_of_ble_eq_true rfl⟩) (va_recv hK hP (ci := 11) (q0 := 0) rfl (wM_0 A C _)) hP hS rfl hl.1 rfl (Nat.le_of_ble_eq_true rfl) dX11_mend_41 ⟨Nat.zero_le _, Nat.zero_le _⟩ (fun H locs hP hS => ?_)
        refine lv_istore_n (lv' := [(3, .int r5), (0, .ref (A 0)), (1, .int x1), (2, .int x2)]) hx hb dX11_mend_44 rfl hl (by decide) rfl (fun ls hl => ?_)
        refine lv_iload_n hx hb dX11_mend_45 rfl (lv_at hl 0 rfl) ?_
        refine lv_iconst (v := (-1)) hx hb dX11_mend_46 (by decide) ?_
        refine lv_icmp_ne (tgt := 53) hx hb dX11_mend_47 (by decide) (fun c6 => ?_) (fun c6 => ?_)
        · have hf := (if_neg c6).symm.trans hf
          refine lv_aload_n hx hb dX11_mend_53 rfl (lv_at hl 1 rfl) ?_
          refine gM_0_23 hx hb hts hown hK hP (hts _ kw_160) dX11_mend_54 ?_
          refine lv_iload_n hx hb dX11_mend_57 rfl (lv_at hl 3 rfl) ?_
          refine lv_iload_n hx hb dX11_mend_58 rfl (lv_at hl 0 rfl) ?_
          refine pM_a7 hx hb hK hP hA hS (ib_in z2) dX11_mend_59 (fun H locs hP hS => ?_)
          refine lv_iinc (v := (x1 + 1)) (lv' := [(1, .int (x1 + 1)), (3, .int r5), (0, .ref (A 0)), (2, .int x2)]) hx hb dX11_mend_60 hl (k := 2) rfl rfl (by decide) rfl (fun ls hl => ?_)
          refine lv_iinc (v := (x2 + 1)) (lv' := [(2, .int (x2 + 1)), (1, .int (x1 + 1)), (3, .int r5), (0, .ref (A 0))]) hx hb dX11_mend_63 hl (k := 3) rfl rfl (by decide) rfl (fun ls hl => ?_)
          refine lv_goto (tgt := 14) hx hb dX11_mend_66 (by decide) ?_
          have hP : va_P D vwCl (wM A C (sA σ_r5 7 (upd (σ_r5.2.1 7) x2.toNatClampNeg r5))) H := hP
          exact ih _ _ _ _ _ _ hf (lv_sub hl [3, 1, 0] rfl) hP hS
        · have hf := (if_pos c6).symm.trans hf
          refine lv_goto (tgt := 63) hx hb dX11_mend_50 (by decide) ?_
          refine lv_iinc (v := (x2 + 1)) (lv' := [(2, .int (x2 + 1)), (3, .int r5), (0, .ref (A 0)), (1, .int x1)]) hx hb dX11_mend_63 hl (k := 3) rfl rfl (by decide) rfl (fun ls hl => ?_)
          refine lv_goto (tgt := 14) hx hb dX11_mend_66 (by decide) ?_
          exact ih _ _ _ _ _ _ hf (lv_sub hl [2, 3, 0] rfl) hP hS
      · have hf := (if_pos c4).symm.trans hf
        refine lv_goto (tgt := 63) hx hb dX11_mend_36 (by decide) ?_
        refine lv_iinc (v := (x2 + 1)) (lv' := [(2, .int (x2 + 1)), (0, .ref (A 0)), (1, .int x1)]) hx hb dX11_mend_63 hl (k := 2) rfl rfl (by decide) rfl (fun ls hl => ?_)
        refine lv_goto (tgt := 14) hx hb dX11_mend_66 (by decide) ?_
        exact ih _ _ _ _ _ _ hf (lv_sub hl [1, 2, 0] rfl) hP hS
set_option maxHeartbeats 4000000 in
set_option maxRecDepth 100000 in
theorem ct_mX11_mend (l : Launch) (D : va_G) (C : Nat → ClassId) (A adK adV : Nat → Nat) (hA : apA A 33)  {σ : St} {res : (Int32 × St)} (hf : F_mX11_mend σ = some res) : Met l yX11_mend (Cond.code yX11_mend cX11_mend 4 (some .int) :: wsL_law) rm_X11_mend (Pcx D C (wM A C) adK adV (fxA A 33) [.ref (A 0)] σ) (Qcx D (wM A C) (fxA A 33) (some (.int res.1)) res.2) 0 0 (fxA A 33) := by
  refine Met.ofW (cc := cX11_mend) (maxL := 4) (ret := (some .int)) (by decide) rfl ?_
  intro p e s m args below meth c s₁ B hml hv
  obtain ⟨rfl, hP, hK, hZ⟩ := hv
  have cx : Cxx D C adK adV (fxA A 33) p s m _ meth c cX11_mend 4 RX11 (some .int) := ⟨B.exec, B.bytes, hml, findClass_of_methodNamed B.named, fun w h => atoms_spec (ws := Cond.code yX11_mend cX11_mend 4 (some .int) :: wsL_law) B.pre w (List.mem_cons_of_mem _ h), hK, B.returns, B.notSynchronized, hZ⟩
  obtain ⟨hx, hb, -, hown, hts, -, hr, hlk, -⟩ := id cx
  have hS : va_S (fxA A 33) s.heap s.heap [] := va_S.rf
  have hl := lv_entry ([.ref (A 0)]) (n := 4) (Nat.le_of_ble_eq_true rfl)
  rw [lg_entry_eq]
  generalize (lg_sl ([.ref (A 0)]) ++ List.replicate (4 - (lg_sl ([.ref (A 0)])).length) Slot.unset).toArray = ls at hl ⊢
  have hl : lv_has ls 4 [(0, .ref (A 0))] := hl
  show W p l e rm_X11_mend s m _ below meth c s.heap [] 0 0 _ _
  refine lv_aload_n hx hb dX11_mend_0 rfl (lv_at hl 0 rfl) ?_
  refine gM_0_17 hx hb hts hown hK hP (v := (σ.1 12)) rfl (hts _ kw_416) dX11_mend_1 ?_
  refine lv_if_ne (tgt := 10) hx hb dX11_mend_4 (by decide) (fun c7 => ?_) (fun c7 => ?_)
  · have hf := (if_neg c7).symm.trans hf
    refine lv_iconst (v := 0) hx hb dX11_mend_10 (by decide) ?_
    refine lv_istore_n (lv' := [(1, .int 0), (0, .ref (A 0))]) hx hb dX11_mend_11 rfl hl (by decide) rfl (fun ls hl => ?_)
    refine lv_iconst (v := 0) hx hb dX11_mend_12 (by decide) ?_
    refine lv_istore_n (lv' := [(2, .int 0), (1, .int 0), (0, .ref (A 0))]) hx hb dX11_mend_13 rfl hl (by decide) rfl (fun ls hl => ?_)
    exact w_F_mX11_mend_14 hA cx FU _ _ _ _ _ _ hf (lv_sub hl [2, 1, 0] rfl) hP hS
  · have hf := (if_pos c7).symm.trans hf
    refine lv_bipush (v := (-4)) hx hb dX11_mend_7 (by decide) ?_
    exact cx_iret cx hP hS hf dX11_mend_9
set_option maxHeartbeats 4000000 in
set_option maxRecDepth 100000 in
theorem ct_mX11_swap (l : Launch) (D : va_G) (C : Nat → ClassId) (A adK adV : Nat → Nat) (hA : apA A 33) {x1 : Int32} {x2 : Int32} {σ : St} {res : St} (hf : F_mX11_swap x1 x2 σ = some res) : Met l yX11_swap (Cond.code yX11_swap cX11_swap 4 none :: wsL_law) rm_X11_swap (Pcx D C (wM A C) adK adV (fxA A 33) [.ref (A 0), .int x1, .int x2] σ) (Qcx D (wM A C) (fxA A 33) none res) 0 0 (fxA A 33) := by
  refine Met.ofW (cc := cX11_swap) (maxL := 4) (ret := none) (by decide) rfl ?_
  intro p e s m args below meth c s₁ B hml hv
  obtain ⟨rfl, hP, hK, hZ⟩ := hv
  have cx : Cxx D C adK adV (fxA A 33) p s m _ meth c cX11_swap 4 RX11 none := ⟨B.exec, B.bytes, hml, findClass_of_methodNamed B.named, fun w h => atoms_spec (ws := Cond.code yX11_swap cX11_swap 4 none :: wsL_law) B.pre w (List.mem_cons_of_mem _ h), hK, B.returns, B.notSynchronized, hZ⟩
  obtain ⟨hx, hb, -, hown, hts, -, hr, hlk, -⟩ := id cx
  have hS : va_S (fxA A 33) s.heap s.heap [] := va_S.rf
  have hl := lv_entry ([.ref (A 0), .int x1, .int x2]) (n := 4) (Nat.le_of_ble_eq_true rfl)
  rw [lg_entry_eq]
  generalize (lg_sl ([.ref (A 0), .int x1, .int x2]) ++ List.replicate (4 - (lg_sl ([.ref (A 0), .int x1, .int x2])).length) Slot.unset).toArray = ls at hl ⊢
  have hl : lv_has ls 4 [(0, .ref (A 0)), (1, .int x1), (2, .int x2)] := hl
  show W p l e rm_X11_swap s m _ below meth c s.heap [] 0 0 _ _
  refine lv_aload_n hx hb dX11_swap_0 rfl (lv_at hl 0 rfl) ?_
  refine gM_0_23 hx hb hts hown hK hP (hts _ kw_160) dX11_swap_1 ?_
  refine lv_iload_n hx hb dX11_swap_4 rfl (lv_at hl 1 rfl) ?_
  obtain ⟨z1, hf⟩ := gd_some hf
  refine gM_a7 hx hb hK hP (ib_in z1) (v := (σ.2.1 7 x1.toNatClampNeg)) rfl dX11_swap_5 ?_
  refine lv_istore_n (lv' := [(3, .int (σ.2.1 7 x1.toNatClampNeg)), (0, .ref (A 0)), (1, .int x1), (2, .int x2)]) hx hb dX11_swap_6 rfl hl (by decide) rfl (fun ls hl => ?_)
  refine lv_aload_n hx hb dX11_swap_7 rfl (lv_at hl 1 rfl) ?_
  refine gM_0_23 hx hb hts hown hK hP (hts _ kw_160) dX11_swap_8 ?_
  refine lv_iload_n hx hb dX11_swap_11 rfl (lv_at hl 2 rfl) ?_
  refine lv_aload_n hx hb dX11_swap_12 rfl (lv_at hl 1 rfl) ?_
  refine gM_0_23 hx hb hts hown hK hP (hts _ kw_160) dX11_swap_13 ?_
  refine lv_iload_n hx hb dX11_swap_16 rfl (lv_at hl 3 rfl) ?_
  obtain ⟨z2, hf⟩ := gd_some hf
  refine gM_a7 hx hb hK hP (ib_in z2) (v := (σ.2.1 7 x2.toNatClampNeg)) rfl dX11_swap_17 ?_
  refine pM_a7 hx hb hK hP hA hS (ib_in z1) dX11_swap_18 (fun H locs hP hS => ?_)
  refine lv_aload_n hx hb dX11_swap_19 rfl (lv_at hl 1 rfl) ?_
  refine gM_0_23 hx hb hts hown hK hP (hts _ kw_160) dX11_swap_20 ?_
  refine lv_iload_n hx hb dX11_swap_23 rfl (lv_at hl 3 rfl) ?_
  refine lv_iload_n hx hb dX11_swap_24 rfl (lv_at hl 0 rfl) ?_
  refine pM_a7 hx hb hK hP hA hS (ib_in z2) dX11_swap_25 (fun H locs hP hS => ?_)
  have hP : va_P D vwCl (wM A C (sA σ 7 (upd (upd (σ.2.1 7) x1.toNatClampNeg (σ.2.1 7 x2.toNatClampNeg)) x2.toNatClampNeg (σ.2.1 7 x1.toNatClampNeg)))) H := hP
  exact cx_vret cx hP hS hf dX11_swap_26
set_option maxHeartbeats 4000000 in
set_option maxRecDepth 100000 in
theorem w_F_mX11_exchange_49 {p : Program} {l : Launch} {e : Env} {s : State} {m : MethodId} {args : Array Value} {below : List Frame} {meth : Method} {c : Code} {D : va_G} {C : Nat → ClassId} {A adK adV : Nat → Nat} (hA : apA A 33) (cx : Cxx D C adK adV (fxA A 33) p s m args meth c cX11_exchange 7 RX11 (some .int)) {res : (Int32 × St)} {b19 : Int32 → Int32 → Int32 → St → Option (Int32 × St)} (hb19 : ∀ (x1 : Int32) (x2 : Int32) (x3 : Int32) (σ : St) (H : Heap) (locs : List Loc) (ls : Array Slot), b19 x1 x2 x3 σ = some res → lv_has ls 7 [(0, .ref (A 0)), (1, .int x1), (2, .int x2), (3, .int x3)] → va_P D vwCl (wM A C σ) H → va_S (fxA A 33) s.heap H locs → W p l e rm_X11_exchange s m args below meth c H locs 0 0 (MQ below (Qcx D (wM A C) (fxA A 33) (some (.int res.1)) res.2) args s 0 0 (fxA A 33)) (F0 m 19 ls [])) {b34 : Int32 → Int32 → Int32 → Int32 → St → Option (Int32 × St)} (hb34 : ∀ (x1 : Int32) (x2 : Int32) (x3 : Int32) (x4 : Int32) (σ : St) (H : Heap) (locs : List Loc) (ls : Array Slot), b34 x1 x2 x3 x4 σ = some res → lv_has ls 7 [(0, .ref (A 0)), (1, .int x1), (2, .int x2), (3, .int x3), (4, .int x4)] → va_P D vwCl (wM A C σ) H → va_S (fxA A 33) s.heap H locs → W p l e rm_X11_exchange s m args below meth c H locs 0 0 (MQ below (Qcx D (wM A C) (fxA A 33) (some (.int res.1)) res.2) args s 0 0 (fxA A 33)) (F0 m 34 ls [])) : ∀ (n : Nat), ∀ (x1 : Int32) (x2 : Int32) (x3 : Int32) (x4 : Int32) (x5 : Int32) (σ : St) (H : Heap) (locs : List Loc) (ls : Array Slot), F_mX11_exchange_49 b19 b34 n x1 x2 x3 x4 x5 σ = some res → lv_has ls 7 [(0, .ref (A 0)), (1, .int x1), (2, .int x2), (3, .int x3), (4, .int x4), (5, .int x5)] → va_P D vwCl (wM A C σ) H → va_S (fxA A 33) s.heap H locs → W p l e rm_X11_exchange s m args below meth c H locs 0 0 (MQ below (Qcx D (wM A C) (fxA A 33) (some (.int res.1)) res.2) args s 0 0 (fxA A 33)) (F0 m 49 ls []) := by
  obtain ⟨hx, hb, hml, hown, hts, hK, hr, hlk, hZ⟩ := id cx
  intro n
  induction n with
  | zero =>
    intro x1 x2 x3 x4 x5 σ H locs ls hf hl hP hS
    exact absurd (show (none : Option (Int32 × St)) = some res from hf) (by intro h; cases h)
  | succ n ih =>
    intro x1 x2 x3 x4 x5 σ H locs ls hf hl hP hS
    refine lv_iload hx hb dX11_exchange_49 (lv_at hl 5 rfl) ?_
    refine lv_aload_n hx hb dX11_exchange_51 rfl (lv_at hl 0 rfl) ?_
    refine gM_0_17 hx hb hts hown hK hP (v := (σ.1 12)) rfl (hts _ kw_416) dX11_exchange_52 ?_
    refine lv_icmp_ge (tgt := 133) hx hb dX11_exchange_55 (by decide) (fun c1 => ?_) (fun c1 => ?_)
    · have hf := (if_pos c1).symm.trans hf
      refine lv_iinc (v := (x4 + 1)) (lv' := [(4, .int (x4 + 1)), (0, .ref (A 0)), (1, .int x1), (2, .int x2), (3, .int x3), (5, .int x5)]) hx hb dX11_exchange_133 hl (k := 4) rfl rfl (by decide) rfl (fun ls hl => ?_)
      refine lv_goto (tgt := 34) hx hb dX11_exchange_136 (by decide) ?_
      exact hb34 _ _ _ _ _ _ _ _ hf (lv_sub hl [1, 2, 3, 4, 0] rfl) hP hS
    · have hf := (if_neg c1).symm.trans hf
      refine lv_aload_n hx hb dX11_exchange_58 rfl (lv_at hl 0 rfl) ?_
      refine gM_0_16 hx hb hts hown hK hP (hts _ kw_156) dX11_exchange_59 ?_
      refine lv_aload_n hx hb dX11_exchange_62 rfl (lv_at hl 0 rfl) ?_
      refine gM_0_23 hx hb hts hown hK hP (hts _ kw_160) dX11_exchange_63 ?_
      refine lv_iload hx hb dX11_exchange_66 (lv_at hl 4 rfl) ?_
      obtain ⟨z2, hf⟩ := gd_some hf
      refine gM_a7 hx hb hK hP (ib_in z2) (v := (σ.2.1 7 x4.toNatClampNeg)) rfl dX11_exchange_68 ?_
      obtain ⟨z3, hf⟩ := gd_some hf
      refine gM_a4 hx hb hK hP (ib_in z3) (v := (σ.2.1 4 (σ.2.1 7 x4.toNatClampNeg).toNatClampNeg)) rfl dX11_exchange_69 ?_
      refine lv_if_ne (tgt := 127) hx hb dX11_exchange_70 (by decide) (fun c4 => ?_) (fun c4 => ?_)
      · have hf := (if_neg c4).symm.trans hf
        refine lv_iinc (v := (x5 + 1)) (lv' := [(5, .int (x5 + 1)), (0, .ref (A 0)), (1, .int x1), (2, .int x2), (3, .int x3), (4, .int x4)]) hx hb dX11_exchange_127 hl (k := 5) rfl rfl (by decide) rfl (fun ls hl => ?_)
        refine lv_goto (tgt := 49) hx hb dX11_exchange_130 (by decide) ?_
        exact ih _ _ _ _ _ _ _ _ _ hf (lv_sub hl [1, 2, 3, 4, 5, 0] rfl) hP hS
      · have hf := (if_pos c4).symm.trans hf
        refine lv_aload_n hx hb dX11_exchange_73 rfl (lv_at hl 0 rfl) ?_
        refine gM_0_16 hx hb hts hown hK hP (hts _ kw_156) dX11_exchange_74 ?_
        refine lv_aload_n hx hb dX11_exchange_77 rfl (lv_at hl 0 rfl) ?_
        refine gM_0_23 hx hb hts hown hK hP (hts _ kw_160) dX11_exchange_78 ?_
        refine lv_iload hx hb dX11_exchange_81 (lv_at hl 5 rfl) ?_
        obtain ⟨z5, hf⟩ := gd_some hf
        refine gM_a7 hx hb hK hP (ib_in z5) (v := (σ.2.1 7 x5.toNatClampNeg)) rfl dX11_exchange_83 ?_
        obtain ⟨z6, hf⟩ := gd_some hf
        refine gM_a4 hx hb hK hP (ib_in z6) (v := (σ.2.1 4 (σ.2.1 7 x5.toNatClampNeg).toNatClampNeg)) rfl dX11_exchange_84 ?_
        refine lv_if_eq (tgt := 91) hx hb dX11_exchange_85 (by decide) (fun c7 => ?_) (fun c7 => ?_)
        · have hf := (if_pos c7).symm.trans hf
          refine lv_aload_n hx hb dX11_exchange_91 rfl (lv_at hl 0 rfl) ?_
          refine lv_iload hx hb dX11_exchange_92 (lv_at hl 4 rfl) ?_
          refine lv_iload hx hb dX11_exchange_94 (lv_at hl 5 rfl) ?_
          obtain ⟨σ_r8, h_r8, hf⟩ := bv_some hf
          refine cx_V (As := [.int x4, .int x5]) (rest := []) cx (ct_mX11_swap l D C A adK adV hA h_r8) (cw_X11_302 hts ⟨Nat.le_of_ble_eq_true rfl, Nat.le_of_ble_eq_true rfl⟩) (va_recv hK hP (ci := 11) (q0 := 0) rfl (wM_0 A C _)) hP hS rfl hl.1 rfl (Nat.le_of_ble_eq_true rfl) dX11_exchange_96 ⟨Nat.zero_le _, Nat.zero_le _⟩ (fun H locs hP hS => ?_)
          refine lv_aload_n hx hb dX11_exchange_99 rfl (lv_at hl 0 rfl) ?_
          obtain ⟨⟨r9, σ_r9⟩, h_r9, hf⟩ := bd_some hf
          refine cx_V (As := []) (rest := []) cx (ct_mX11_timeNow l D C A adK adV hA h_r9) (cw_X11_296 hts ⟨Nat.le_of_ble_eq_true rfl, Nat.le_of_ble_eq_true rfl⟩) (va_recv hK hP (ci := 11) (q0 := 0) rfl (wM_0 A C _)) hP hS rfl hl.1 rfl (Nat.le_of_ble_eq_true rfl) dX11_exchange_100 ⟨Nat.zero_le _, Nat.zero_le _⟩ (fun H locs hP hS => ?_)
          refine lv_istore (lv' := [(6, .int r9), (0, .ref (A 0)), (1, .int x1), (2, .int x2), (3, .int x3), (4, .int x4), (5, .int x5)]) hx hb dX11_exchange_103 hl (by decide) rfl (fun ls hl => ?_)
          refine lv_iload hx hb dX11_exchange_105 (lv_at hl 0 rfl) ?_
          refine lv_iload_n hx hb dX11_exchange_107 rfl (lv_at hl 2 rfl) ?_
          refine lv_icmp_ge (tgt := 119) hx hb dX11_exchange_108 (by decide) (fun c10 => ?_) (fun c10 => ?_)
          · have hf := (if_pos c10).symm.trans hf
            refine lv_aload_n hx hb dX11_exchange_119 rfl (lv_at hl 1 rfl) ?_
            refine lv_iload hx hb dX11_exchange_120 (lv_at hl 5 rfl) ?_
            refine lv_iload hx hb dX11_exchange_122 (lv_at hl 6 rfl) ?_
            obtain ⟨σ_r11, h_r11, hf⟩ := bv_some hf
            refine cx_V (As := [.int x4, .int x5]) (rest := []) cx (ct_mX11_swap l D C A adK adV hA h_r11) (cw_X11_302 hts ⟨Nat.le_of_ble_eq_true rfl, Nat.le_of_ble_eq_true rfl⟩) (va_recv hK hP (ci := 11) (q0 := 0) rfl (wM_0 A C _)) hP hS rfl hl.1 rfl (Nat.le_of_ble_eq_true rfl) dX11_exchange_124 ⟨Nat.zero_le _, Nat.zero_le _⟩ (fun H locs hP hS => ?_)
            refine lv_iinc (v := (x5 + 1)) (lv' := [(5, .int (x5 + 1)), (6, .int r9), (0, .ref (A 0)), (1, .int x1), (2, .int x2), (3, .int x3), (4, .int x4)]) hx hb dX11_exchange_127 hl (k := 6) rfl rfl (by decide) rfl (fun ls hl => ?_)
            refine lv_goto (tgt := 49) hx hb dX11_exchange_130 (by decide) ?_
            exact ih _ _ _ _ _ _ _ _ _ hf (lv_sub hl [2, 3, 4, 5, 6, 0] rfl) hP hS
          · have hf := (if_neg c10).symm.trans hf
            refine lv_iload hx hb dX11_exchange_111 (lv_at hl 0 rfl) ?_
            refine lv_istore_n (lv' := [(1, .int r9), (6, .int r9), (0, .ref (A 0)), (2, .int x2), (3, .int x3), (4, .int x4), (5, .int x5)]) hx hb dX11_exchange_113 rfl hl (by decide) rfl (fun ls hl => ?_)
            refine lv_iconst (v := 1) hx hb dX11_exchange_114 (by decide) ?_
            refine lv_istore_n (lv' := [(2, .int 1), (1, .int r9), (6, .int r9), (0, .ref (A 0)), (3, .int x3), (4, .int x4), (5, .int x5)]) hx hb dX11_exchange_115 rfl hl (by decide) rfl (fun ls hl => ?_)
            refine lv_goto (tgt := 127) hx hb dX11_exchange_116 (by decide) ?_
            refine lv_iinc (v := (x5 + 1)) (lv' := [(5, .int (x5 + 1)), (2, .int 1), (1, .int r9), (6, .int r9), (0, .ref (A 0)), (3, .int x3), (4, .int x4)]) hx hb dX11_exchange_127 hl (k := 6) rfl rfl (by decide) rfl (fun ls hl => ?_)
            refine lv_goto (tgt := 49) hx hb dX11_exchange_130 (by decide) ?_
            exact ih _ _ _ _ _ _ _ _ _ hf (lv_sub hl [4, 2, 1, 5, 6, 0] rfl) hP hS
        · have hf := (if_neg c7).symm.trans hf
          refine lv_goto (tgt := 127) hx hb dX11_exchange_88 (by decide) ?_
          refine lv_iinc (v := (x5 + 1)) (lv' := [(5, .int (x5 + 1)), (0, .ref (A 0)), (1, .int x1), (2, .int x2), (3, .int x3), (4, .int x4)]) hx hb dX11_exchange_127 hl (k := 5) rfl rfl (by decide) rfl (fun ls hl => ?_)
          refine lv_goto (tgt := 49) hx hb dX11_exchange_130 (by decide) ?_
          exact ih _ _ _ _ _ _ _ _ _ hf (lv_sub hl [1, 2, 3, 4, 5, 0] rfl) hP hS
set_option maxHeartbeats 4000000 in
set_option maxRecDepth 100000 in
theorem w_F_mX11_exchange_34 {p : Program} {l : Launch} {e : Env} {s : State} {m : MethodId} {args : Array Value} {below : List Frame} {meth : Method} {c : Code} {D : va_G} {C : Nat → ClassId} {A adK adV : Nat → Nat} (hA : apA A 33) (cx : Cxx D C adK adV (fxA A 33) p s m args meth c cX11_exchange 7 RX11 (some .int)) {res : (Int32 × St)} {b19 : Int32 → Int32 → Int32 → St → Option (Int32 × St)} (hb19 : ∀ (x1 : Int32) (x2 : Int32) (x3 : Int32) (σ : St) (H : Heap) (locs : List Loc) (ls : Array Slot), b19 x1 x2 x3 σ = some res → lv_has ls 7 [(0, .ref (A 0)), (1, .int x1), (2, .int x2), (3, .int x3)] → va_P D vwCl (wM A C σ) H → va_S (fxA A 33) s.heap H locs → W p l e rm_X11_exchange s m args below meth c H locs 0 0 (MQ below (Qcx D (wM A C) (fxA A 33) (some (.int res.1)) res.2) args s 0 0 (fxA A 33)) (F0 m 19 ls [])) : ∀ (n : Nat), ∀ (x1 : Int32) (x2 : Int32) (x3 : Int32) (x4 : Int32) (σ : St) (H : Heap) (locs : List Loc) (ls : Array Slot), F_mX11_exchange_34 b19 n x1 x2 x3 x4 σ = some res → lv_has ls 7 [(0, .ref (A 0)), (1, .int x1), (2, .int x2), (3, .int x3), (4, .int x4)] → va_P D vwCl (wM A C σ) H → va_S (fxA A 33) s.heap H locs → W p l e rm_X11_exchange s m args below meth c H locs 0 0 (MQ below (Qcx D (wM A C) (fxA A 33) (some (.int res.1)) res.2) args s 0 0 (fxA A 33)) (F0 m 34 ls []) := by
  obtain ⟨hx, hb, hml, hown, hts, hK, hr, hlk, hZ⟩ := id cx
  intro n
  induction n with
  | zero =>
    intro x1 x2 x3 x4 σ H locs ls hf hl hP hS
    exact absurd (show (none : Option (Int32 × St)) = some res from hf) (by intro h; cases h)
  | succ n ih =>
    intro x1 x2 x3 x4 σ H locs ls hf hl hP hS
    refine lv_iload hx hb dX11_exchange_34 (lv_at hl 4 rfl) ?_
    refine lv_aload_n hx hb dX11_exchange_36 rfl (lv_at hl 0 rfl) ?_
    refine gM_0_17 hx hb hts hown hK hP (v := (σ.1 12)) rfl (hts _ kw_416) dX11_exchange_37 ?_
    refine lv_icmp_ge (tgt := 139) hx hb dX11_exchange_40 (by decide) (fun c12 => ?_) (fun c12 => ?_)
    · have hf := (if_pos c12).symm.trans hf
      refine lv_iinc (v := (x3 + 1)) (lv' := [(3, .int (x3 + 1)), (0, .ref (A 0)), (1, .int x1), (2, .int x2), (4, .int x4)]) hx hb dX11_exchange_139 hl (k := 3) rfl rfl (by decide) rfl (fun ls hl => ?_)
      refine lv_goto (tgt := 19) hx hb dX11_exchange_142 (by decide) ?_
      exact hb19 _ _ _ _ _ _ _ hf (lv_sub hl [1, 2, 3, 0] rfl) hP hS
    · have hf := (if_neg c12).symm.trans hf
      refine lv_iload hx hb dX11_exchange_43 (lv_at hl 4 rfl) ?_
      refine lv_iconst (v := 1) hx hb dX11_exchange_45 (by decide) ?_
      refine lv_iadd hx hb dX11_exchange_46 ?_
      refine lv_istore (lv' := [(5, .int (x4 + 1)), (0, .ref (A 0)), (1, .int x1), (2, .int x2), (3, .int x3), (4, .int x4)]) hx hb dX11_exchange_47 hl (by decide) rfl (fun ls hl => ?_)
      exact w_F_mX11_exchange_49 hA cx hb19 ih FU _ _ _ _ _ _ _ _ _ hf (lv_sub hl [1, 2, 3, 4, 5, 0] rfl) hP hS
set_option maxHeartbeats 4000000 in
set_option maxRecDepth 100000 in
theorem w_F_mX11_exchange_19 {p : Program} {l : Launch} {e : Env} {s : State} {m : MethodId} {args : Array Value} {below : List Frame} {meth : Method} {c : Code} {D : va_G} {C : Nat → ClassId} {A adK adV : Nat → Nat} (hA : apA A 33) (cx : Cxx D C adK adV (fxA A 33) p s m args meth c cX11_exchange 7 RX11 (some .int)) {res : (Int32 × St)} : ∀ (n : Nat), ∀ (x1 : Int32) (x2 : Int32) (x3 : Int32) (σ : St) (H : Heap) (locs : List Loc) (ls : Array Slot), F_mX11_exchange_19 n x1 x2 x3 σ = some res → lv_has ls 7 [(0, .ref (A 0)), (1, .int x1), (2, .int x2), (3, .int x3)] → va_P D vwCl (wM A C σ) H → va_S (fxA A 33) s.heap H locs → W p l e rm_X11_exchange s m args below meth c H locs 0 0 (MQ below (Qcx D (wM A C) (fxA A 33) (some (.int res.1)) res.2) args s 0 0 (fxA A 33)) (F0 m 19 ls []) := by
  obtain ⟨hx, hb, hml, hown, hts, hK, hr, hlk, hZ⟩ := id cx
  intro n
  induction n with
  | zero =>
    intro x1 x2 x3 σ H locs ls hf hl hP hS
    exact absurd (show (none : Option (Int32 × St)) = some res from hf) (by intro h; cases h)
  | succ n ih =>
    intro x1 x2 x3 σ H locs ls hf hl hP hS
    refine lv_iload_n hx hb dX11_exchange_19 rfl (lv_at hl 3 rfl) ?_
    refine lv_bipush (v := 20) hx hb dX11_exchange_20 (by decide) ?_
    refine lv_icmp_ge (tgt := 145) hx hb dX11_exchange_22 (by decide) (fun c13 => ?_) (fun c13 => ?_)
    · have hf := (if_pos c13).symm.trans hf
      refine lv_iload_n hx hb dX11_exchange_145 rfl (lv_at hl 1 rfl) ?_
      exact cx_iret cx hP hS hf dX11_exchange_146
    · have hf := (if_neg c13).symm.trans hf
      refine lv_iload_n hx hb dX11_exchange_25 rfl (lv_at hl 2 rfl) ?_
      refine lv_if_eq (tgt := 145) hx hb dX11_exchange_26 (by decide) (fun c14 => ?_) (fun c14 => ?_)
      · have hf := (if_pos c14).symm.trans hf
        refine lv_iload_n hx hb dX11_exchange_145 rfl (lv_at hl 1 rfl) ?_
        exact cx_iret cx hP hS hf dX11_exchange_146
      · have hf := (if_neg c14).symm.trans hf
        refine lv_iconst (v := 0) hx hb dX11_exchange_29 (by decide) ?_
        refine lv_istore_n (lv' := [(2, .int 0), (0, .ref (A 0)), (1, .int x1), (3, .int x3)]) hx hb dX11_exchange_30 rfl hl (by decide) rfl (fun ls hl => ?_)
        refine lv_iconst (v := 0) hx hb dX11_exchange_31 (by decide) ?_
        refine lv_istore (lv' := [(4, .int 0), (2, .int 0), (0, .ref (A 0)), (1, .int x1), (3, .int x3)]) hx hb dX11_exchange_32 hl (by decide) rfl (fun ls hl => ?_)
        exact w_F_mX11_exchange_34 hA cx ih FU _ _ _ _ _ _ _ _ hf (lv_sub hl [2, 3, 1, 4, 0] rfl) hP hS
set_option maxHeartbeats 4000000 in
set_option maxRecDepth 100000 in
theorem ct_mX11_exchange (l : Launch) (D : va_G) (C : Nat → ClassId) (A adK adV : Nat → Nat) (hA : apA A 33)  {σ : St} {res : (Int32 × St)} (hf : F_mX11_exchange σ = some res) : Met l yX11_exchange (Cond.code yX11_exchange cX11_exchange 7 (some .int) :: wsL_law) rm_X11_exchange (Pcx D C (wM A C) adK adV (fxA A 33) [.ref (A 0)] σ) (Qcx D (wM A C) (fxA A 33) (some (.int res.1)) res.2) 0 0 (fxA A 33) := by
  refine Met.ofW (cc := cX11_exchange) (maxL := 7) (ret := (some .int)) (by decide) rfl ?_
  intro p e s m args below meth c s₁ B hml hv
  obtain ⟨rfl, hP, hK, hZ⟩ := hv
  have cx : Cxx D C adK adV (fxA A 33) p s m _ meth c cX11_exchange 7 RX11 (some .int) := ⟨B.exec, B.bytes, hml, findClass_of_methodNamed B.named, fun w h => atoms_spec (ws := Cond.code yX11_exchange cX11_exchange 7 (some .int) :: wsL_law) B.pre w (List.mem_cons_of_mem _ h), hK, B.returns, B.notSynchronized, hZ⟩
  obtain ⟨hx, hb, -, hown, hts, -, hr, hlk, -⟩ := id cx
  have hS : va_S (fxA A 33) s.heap s.heap [] := va_S.rf
  have hl := lv_entry ([.ref (A 0)]) (n := 7) (Nat.le_of_ble_eq_true rfl)
  rw [lg_entry_eq]
  generalize (lg_sl ([.ref (A 0)]) ++ List.replicate (7 - (lg_sl ([.ref (A 0)])).length) Slot.unset).toArray = ls at hl ⊢
  have hl : lv_has ls 7 [(0, .ref (A 0))] := hl
  show W p l e rm_X11_exchange s m _ below meth c s.heap [] 0 0 _ _
  refine lv_aload_n hx hb dX11_exchange_0 rfl (lv_at hl 0 rfl) ?_
  refine gM_0_17 hx hb hts hown hK hP (v := (σ.1 12)) rfl (hts _ kw_416) dX11_exchange_1 ?_
  refine lv_if_ne (tgt := 10) hx hb dX11_exchange_4 (by decide) (fun c15 => ?_) (fun c15 => ?_)
  · have hf := (if_neg c15).symm.trans hf
    refine lv_aload_n hx hb dX11_exchange_10 rfl (lv_at hl 0 rfl) ?_
    obtain ⟨⟨r16, σ_r16⟩, h_r16, hf⟩ := bd_some hf
    refine cx_V (As := []) (rest := []) cx (ct_mX11_timeNow l D C A adK adV hA h_r16) (cw_X11_296 hts ⟨Nat.le_of_ble_eq_true rfl, Nat.le_of_ble_eq_true rfl⟩) (va_recv hK hP (ci := 11) (q0 := 0) rfl (wM_0 A C _)) hP hS rfl hl.1 rfl (Nat.le_of_ble_eq_true rfl) dX11_exchange_11 ⟨Nat.zero_le _, Nat.zero_le _⟩ (fun H locs hP hS => ?_)
    refine lv_istore_n (lv' := [(1, .int r16), (0, .ref (A 0))]) hx hb dX11_exchange_14 rfl hl (by decide) rfl (fun ls hl => ?_)
    refine lv_iconst (v := 1) hx hb dX11_exchange_15 (by decide) ?_
    refine lv_istore_n (lv' := [(2, .int 1), (1, .int r16), (0, .ref (A 0))]) hx hb dX11_exchange_16 rfl hl (by decide) rfl (fun ls hl => ?_)
    refine lv_iconst (v := 0) hx hb dX11_exchange_17 (by decide) ?_
    refine lv_istore_n (lv' := [(3, .int 0), (2, .int 1), (1, .int r16), (0, .ref (A 0))]) hx hb dX11_exchange_18 rfl hl (by decide) rfl (fun ls hl => ?_)
    exact w_F_mX11_exchange_19 hA cx FU _ _ _ _ _ _ _ hf (lv_sub hl [3, 2, 1, 0] rfl) hP hS
  · have hf := (if_pos c15).symm.trans hf
    refine lv_bipush (v := (-4)) hx hb dX11_exchange_7 (by decide) ?_
    exact cx_iret cx hP hS hf dX11_exchange_9
set_option maxHeartbeats 4000000 in
set_option maxRecDepth 100000 in
theorem w_F_mX11_rowOf_60 {p : Program} {l : Launch} {e : Env} {s : State} {m : MethodId} {args : Array Value} {below : List Frame} {meth : Method} {c : Code} {D : va_G} {C : Nat → ClassId} {A adK adV : Nat → Nat} (hA : apA A 33) (cx : Cxx D C adK adV (fxA A 33) p s m args meth c cX11_rowOf 10 RX11 none) {res : St} {b12 : Int32 → Int32 → Int32 → Int32 → Int32 → St → Option St} (hb12 : ∀ (x2 : Int32) (x4 : Int32) (x5 : Int32) (x6 : Int32) (x7 : Int32) (σ : St) (H : Heap) (locs : List Loc) (ls : Array Slot), b12 x2 x4 x5 x6 x7 σ = some res → lv_has ls 10 [(0, .ref (A 0)), (2, .int x2), (4, .int x4), (5, .int x5), (6, .int x6), (7, .int x7)] → va_P D vwCl (wM A C σ) H → va_S (fxA A 33) s.heap H locs → W p l e rm_X11_rowOf s m args below meth c H locs 0 0 (MQ below (Qcx D (wM A C) (fxA A 33) none res) args s 0 0 (fxA A 33)) (F0 m 12 ls [])) {b44 : Int32 → Int32 → Int32 → Int32 → Int32 → Int32 → Int32 → St → Option St} (hb44 : ∀ (x2 : Int32) (x4 : Int32) (x5 : Int32) (x6 : Int32) (x7 : Int32) (x8 : Int32) (x9 : Int32) (σ : St) (H : Heap) (locs : List Loc) (ls : Array Slot), b44 x2 x4 x5 x6 x7 x8 x9 σ = some res → lv_has ls 10 [(0, .ref (A 0)), (2, .int x2), (4, .int x4), (5, .int x5), (6, .int x6), (7, .int x7), (8, .int x8), (9, .int x9)] → va_P D vwCl (wM A C σ) H → va_S (fxA A 33) s.heap H locs → W p l e rm_X11_rowOf s m args below meth c H locs 0 0 (MQ below (Qcx D (wM A C) (fxA A 33) none res) args s 0 0 (fxA A 33)) (F0 m 44 ls [])) : ∀ (x2 : Int32) (x4 : Int32) (x5 : Int32) (x6 : Int32) (x7 : Int32) (x8 : Int32) (x9 : Int32) (σ : St) (H : Heap) (locs : List Loc) (ls : Array Slot), F_mX11_rowOf_60 b12 b44 x2 x4 x5 x6 x7 x8 x9 σ = some res → lv_has ls 10 [(0, .ref (A 0)), (2, .int x2), (4, .int x4), (5, .int x5), (6, .int x6), (7, .int x7), (8, .int x8), (9, .int x9)] → va_P D vwCl (wM A C σ) H → va_S (fxA A 33) s.heap H locs → W p l e rm_X11_rowOf s m args below meth c H locs 0 0 (MQ below (Qcx D (wM A C) (fxA A 33) none res) args s 0 0 (fxA A 33)) (F0 m 60 ls []) := by
  obtain ⟨hx, hb, hml, hown, hts, hK, hr, hlk, hZ⟩ := id cx
  intro x2 x4 x5 x6 x7 x8 x9 σ H locs ls hf hl hP hS
  refine lv_iload hx hb dX11_rowOf_60 (lv_at hl 4 rfl) ?_
  refine lv_iload hx hb dX11_rowOf_62 (lv_at hl 7 rfl) ?_
  refine lv_ishr hx hb dX11_rowOf_64 ?_
  refine lv_iconst (v := 1) hx hb dX11_rowOf_65 (by decide) ?_
  refine lv_iand hx hb dX11_rowOf_66 ?_
  refine lv_if_ne (tgt := 73) hx hb dX11_rowOf_67 (by decide) (fun c1 => ?_) (fun c1 => ?_)
  · have hf := (if_neg c1).symm.trans hf
    refine lv_iinc (v := (x9 + 1)) (lv' := [(9, .int (x9 + 1)), (0, .ref (A 0)), (2, .int x2), (4, .int x4), (5, .int x5), (6, .int x6), (7, .int x7), (8, .int x8)]) hx hb dX11_rowOf_73 hl (k := 7) rfl rfl (by decide) rfl (fun ls hl => ?_)
    refine lv_goto (tgt := 44) hx hb dX11_rowOf_76 (by decide) ?_
    exact hb44 _ _ _ _ _ _ _ _ _ _ _ hf (lv_sub hl [1, 2, 3, 4, 5, 6, 7, 0] rfl) hP hS
  · have hf := (if_pos c1).symm.trans hf
    refine lv_iinc (v := (x8 + (-1))) (lv' := [(8, .int (x8 + (-1))), (0, .ref (A 0)), (2, .int x2), (4, .int x4), (5, .int x5), (6, .int x6), (7, .int x7), (9, .int x9)]) hx hb dX11_rowOf_70 hl (k := 6) rfl rfl (by decide) rfl (fun ls hl => ?_)
    refine lv_iinc (v := (x9 + 1)) (lv' := [(9, .int (x9 + 1)), (8, .int (x8 + (-1))), (0, .ref (A 0)), (2, .int x2), (4, .int x4), (5, .int x5), (6, .int x6), (7, .int x7)]) hx hb dX11_rowOf_73 hl (k := 7) rfl rfl (by decide) rfl (fun ls hl => ?_)
    refine lv_goto (tgt := 44) hx hb dX11_rowOf_76 (by decide) ?_
    exact hb44 _ _ _ _ _ _ _ _ _ _ _ hf (lv_sub hl [2, 3, 4, 5, 6, 7, 1, 0] rfl) hP hS
set_option maxHeartbeats 4000000 in
set_option maxRecDepth 100000 in
theorem w_F_mX11_rowOf_44 {p : Program} {l : Launch} {e : Env} {s : State} {m : MethodId} {args : Array Value} {below : List Frame} {meth : Method} {c : Code} {D : va_G} {C : Nat → ClassId} {A adK adV : Nat → Nat} (hA : apA A 33) (cx : Cxx D C adK adV (fxA A 33) p s m args meth c cX11_rowOf 10 RX11 none) {res : St} {b12 : Int32 → Int32 → Int32 → Int32 → Int32 → St → Option St} (hb12 : ∀ (x2 : Int32) (x4 : Int32) (x5 : Int32) (x6 : Int32) (x7 : Int32) (σ : St) (H : Heap) (locs : List Loc) (ls : Array Slot), b12 x2 x4 x5 x6 x7 σ = some res → lv_has ls 10 [(0, .ref (A 0)), (2, .int x2), (4, .int x4), (5, .int x5), (6, .int x6), (7, .int x7)] → va_P D vwCl (wM A C σ) H → va_S (fxA A 33) s.heap H locs → W p l e rm_X11_rowOf s m args below meth c H locs 0 0 (MQ below (Qcx D (wM A C) (fxA A 33) none res) args s 0 0 (fxA A 33)) (F0 m 12 ls [])) : ∀ (n : Nat), ∀ (x2 : Int32) (x4 : Int32) (x5 : Int32) (x6 : Int32) (x7 : Int32) (x8 : Int32) (x9 : Int32) (σ : St) (H : Heap) (locs : List Loc) (ls : Array Slot), F_mX11_rowOf_44 b12 n x2 x4 x5 x6 x7 x8 x9 σ = some res → lv_has ls 10 [(0, .ref (A 0)), (2, .int x2), (4, .int x4), (5, .int x5), (6, .int x6), (7, .int x7), (8, .int x8), (9, .int x9)] → va_P D vwCl (wM A C σ) H → va_S (fxA A 33) s.heap H locs → W p l e rm_X11_rowOf s m args below meth c H locs 0 0 (MQ below (Qcx D (wM A C) (fxA A 33) none res) args s 0 0 (fxA A 33)) (F0 m 44 ls []) := by
  obtain ⟨hx, hb, hml, hown, hts, hK, hr, hlk, hZ⟩ := id cx
  intro n
  induction n with
  | zero =>
    intro x2 x4 x5 x6 x7 x8 x9 σ H locs ls hf hl hP hS
    exact absurd (show (none : Option St) = some res from hf) (by intro h; cases h)
  | succ n ih =>
    intro x2 x4 x5 x6 x7 x8 x9 σ H locs ls hf hl hP hS
    refine lv_iload hx hb dX11_rowOf_44 (lv_at hl 4 rfl) ?_
    refine lv_iload hx hb dX11_rowOf_46 (lv_at hl 7 rfl) ?_
    refine lv_ishr hx hb dX11_rowOf_48 ?_
    refine lv_iconst (v := 1) hx hb dX11_rowOf_49 (by decide) ?_
    refine lv_iand hx hb dX11_rowOf_50 ?_
    refine lv_iconst (v := 1) hx hb dX11_rowOf_51 (by decide) ?_
    refine lv_icmp_eq (tgt := 60) hx hb dX11_rowOf_52 (by decide) (fun c2 => ?_) (fun c2 => ?_)
    · have hf := (if_pos c2).symm.trans hf
      exact w_F_mX11_rowOf_60 hA cx hb12 ih _ _ _ _ _ _ _ _ _ _ _ hf (lv_sub hl [0, 1, 2, 3, 4, 5, 6, 7] rfl) hP hS
    · have hf := (if_neg c2).symm.trans hf
      refine lv_iload hx hb dX11_rowOf_55 (lv_at hl 6 rfl) ?_
      refine lv_if_le (tgt := 79) hx hb dX11_rowOf_57 (by decide) (fun c3 => ?_) (fun c3 => ?_)
      · have hf := (if_pos c3).symm.trans hf
        refine lv_iload hx hb dX11_rowOf_79 (lv_at hl 4 rfl) ?_
        refine lv_iconst (v := 1) hx hb dX11_rowOf_81 (by decide) ?_
        refine lv_iload hx hb dX11_rowOf_82 (lv_at hl 7 rfl) ?_
        refine lv_ishl hx hb dX11_rowOf_84 ?_
        refine lv_ior hx hb dX11_rowOf_85 ?_
        refine lv_istore (lv' := [(6, .int (x6 ||| (1 <<< (x9 &&& 31)))), (0, .ref (A 0)), (2, .int x2), (4, .int x4), (5, .int x5), (7, .int x7), (8, .int x8), (9, .int x9)]) hx hb dX11_rowOf_86 hl (by decide) rfl (fun ls hl => ?_)
        refine lv_aload_n hx hb dX11_rowOf_88 rfl (lv_at hl 1 rfl) ?_
        refine gM_0_23 hx hb hts hown hK hP (hts _ kw_160) dX11_rowOf_89 ?_
        refine lv_aload_n hx hb dX11_rowOf_92 rfl (lv_at hl 1 rfl) ?_
        refine gM_0_49 hx hb hts hown hK hP (hts _ kw_177) dX11_rowOf_93 ?_
        refine lv_iload hx hb dX11_rowOf_96 (lv_at hl 5 rfl) ?_
        obtain ⟨z4, hf⟩ := gd_some hf
        refine gM_a24 hx hb hK hP (ib_in z4) (v := (σ.2.1 24 x7.toNatClampNeg)) rfl dX11_rowOf_98 ?_
        refine lv_aload_n hx hb dX11_rowOf_99 rfl (lv_at hl 1 rfl) ?_
        refine gM_0_50 hx hb hts hown hK hP (hts _ kw_178) dX11_rowOf_100 ?_
        refine lv_iload hx hb dX11_rowOf_103 (lv_at hl 7 rfl) ?_
        obtain ⟨z5, hf⟩ := gd_some hf
        refine gM_a25 hx hb hK hP (ib_in z5) (v := (σ.2.1 25 x9.toNatClampNeg)) rfl dX11_rowOf_105 ?_
        obtain ⟨z6, hf⟩ := gd_some hf
        refine pM_a7 hx hb hK hP hA hS (ib_in z6) dX11_rowOf_106 (fun H locs hP hS => ?_)
        refine lv_iinc (v := (x7 + 1)) (lv' := [(7, .int (x7 + 1)), (6, .int (x6 ||| (1 <<< (x9 &&& 31)))), (0, .ref (A 0)), (2, .int x2), (4, .int x4), (5, .int x5), (8, .int x8), (9, .int x9)]) hx hb dX11_rowOf_107 hl (k := 5) rfl rfl (by decide) rfl (fun ls hl => ?_)
        refine lv_goto (tgt := 12) hx hb dX11_rowOf_110 (by decide) ?_
        have hP : va_P D vwCl (wM A C (sA σ 7 (upd (σ.2.1 7) (σ.2.1 24 x7.toNatClampNeg).toNatClampNeg (σ.2.1 25 x9.toNatClampNeg)))) H := hP
        exact hb12 _ _ _ _ _ _ _ _ _ hf (lv_sub hl [2, 3, 4, 5, 1, 0] rfl) hP hS
      · have hf := (if_neg c3).symm.trans hf
        exact w_F_mX11_rowOf_60 hA cx hb12 ih _ _ _ _ _ _ _ _ _ _ _ hf (lv_sub hl [0, 1, 2, 3, 4, 5, 6, 7] rfl) hP hS
set_option maxHeartbeats 4000000 in
set_option maxRecDepth 100000 in
theorem w_F_mX11_rowOf_12 {p : Program} {l : Launch} {e : Env} {s : State} {m : MethodId} {args : Array Value} {below : List Frame} {meth : Method} {c : Code} {D : va_G} {C : Nat → ClassId} {A adK adV : Nat → Nat} (hA : apA A 33) (cx : Cxx D C adK adV (fxA A 33) p s m args meth c cX11_rowOf 10 RX11 none) {res : St} : ∀ (n : Nat), ∀ (x2 : Int32) (x4 : Int32) (x5 : Int32) (x6 : Int32) (x7 : Int32) (σ : St) (H : Heap) (locs : List Loc) (ls : Array Slot), F_mX11_rowOf_12 n x2 x4 x5 x6 x7 σ = some res → lv_has ls 10 [(0, .ref (A 0)), (2, .int x2), (4, .int x4), (5, .int x5), (6, .int x6), (7, .int x7)] → va_P D vwCl (wM A C σ) H → va_S (fxA A 33) s.heap H locs → W p l e rm_X11_rowOf s m args below meth c H locs 0 0 (MQ below (Qcx D (wM A C) (fxA A 33) none res) args s 0 0 (fxA A 33)) (F0 m 12 ls []) := by
  obtain ⟨hx, hb, hml, hown, hts, hK, hr, hlk, hZ⟩ := id cx
  intro n
  induction n with
  | zero =>
    intro x2 x4 x5 x6 x7 σ H locs ls hf hl hP hS
    exact absurd (show (none : Option St) = some res from hf) (by intro h; cases h)
  | succ n ih =>
    intro x2 x4 x5 x6 x7 σ H locs ls hf hl hP hS
    refine lv_iload hx hb dX11_rowOf_12 (lv_at hl 5 rfl) ?_
    refine lv_iload_n hx hb dX11_rowOf_14 rfl (lv_at hl 1 rfl) ?_
    refine lv_icmp_ge (tgt := 113) hx hb dX11_rowOf_15 (by decide) (fun c7 => ?_) (fun c7 => ?_)
    · have hf := (if_pos c7).symm.trans hf
      exact cx_vret cx hP hS hf dX11_rowOf_113
    · have hf := (if_neg c7).symm.trans hf
      refine lv_iload hx hb dX11_rowOf_18 (lv_at hl 3 rfl) ?_
      refine lv_iload_n hx hb dX11_rowOf_20 rfl (lv_at hl 1 rfl) ?_
      refine lv_iload hx hb dX11_rowOf_21 (lv_at hl 5 rfl) ?_
      refine lv_isub hx hb dX11_rowOf_23 ?_
      obtain ⟨z8, hf⟩ := gn_some hf
      refine lv_idiv hx hb dX11_rowOf_24 z8 ?_
      refine lv_istore (lv' := [(5, .int (x5 / (x2 - x7))), (0, .ref (A 0)), (2, .int x2), (4, .int x4), (6, .int x6), (7, .int x7)]) hx hb dX11_rowOf_25 hl (by decide) rfl (fun ls hl => ?_)
      refine lv_iload hx hb dX11_rowOf_27 (lv_at hl 3 rfl) ?_
      refine lv_iload hx hb dX11_rowOf_29 (lv_at hl 0 rfl) ?_
      obtain ⟨z9, hf⟩ := gn_some hf
      refine lv_idiv hx hb dX11_rowOf_31 z9 ?_
      refine lv_istore (lv' := [(8, .int (x4 / (x5 / (x2 - x7)))), (5, .int (x5 / (x2 - x7))), (0, .ref (A 0)), (2, .int x2), (4, .int x4), (6, .int x6), (7, .int x7)]) hx hb dX11_rowOf_32 hl (by decide) rfl (fun ls hl => ?_)
      refine lv_iload hx hb dX11_rowOf_34 (lv_at hl 4 rfl) ?_
      refine lv_iload hx hb dX11_rowOf_36 (lv_at hl 1 rfl) ?_
      refine lv_irem hx hb dX11_rowOf_38 z9 ?_
      refine lv_istore (lv' := [(4, .int (x4 - x4 / (x5 / (x2 - x7)) * (x5 / (x2 - x7)))), (8, .int (x4 / (x5 / (x2 - x7)))), (5, .int (x5 / (x2 - x7))), (0, .ref (A 0)), (2, .int x2), (6, .int x6), (7, .int x7)]) hx hb dX11_rowOf_39 hl (by decide) rfl (fun ls hl => ?_)
      refine lv_iconst (v := 0) hx hb dX11_rowOf_41 (by decide) ?_
      refine lv_istore (lv' := [(9, .int 0), (4, .int (x4 - x4 / (x5 / (x2 - x7)) * (x5 / (x2 - x7)))), (8, .int (x4 / (x5 / (x2 - x7)))), (5, .int (x5 / (x2 - x7))), (0, .ref (A 0)), (2, .int x2), (6, .int x6), (7, .int x7)]) hx hb dX11_rowOf_42 hl (by decide) rfl (fun ls hl => ?_)
      exact w_F_mX11_rowOf_44 hA cx ih FU _ _ _ _ _ _ _ _ _ _ _ hf (lv_sub hl [4, 5, 1, 3, 6, 7, 2, 0] rfl) hP hS
set_option maxHeartbeats 4000000 in
set_option maxRecDepth 100000 in
theorem ct_mX11_rowOf (l : Launch) (D : va_G) (C : Nat → ClassId) (A adK adV : Nat → Nat) (hA : apA A 33) {x1 : Int32} {x2 : Int32} {x3 : Int32} {σ : St} {res : St} (hf : F_mX11_rowOf x1 x2 x3 σ = some res) : Met l yX11_rowOf (Cond.code yX11_rowOf cX11_rowOf 10 none :: wsL_law) rm_X11_rowOf (Pcx D C (wM A C) adK adV (fxA A 33) [.ref (A 0), .int x1, .int x2, .int x3] σ) (Qcx D (wM A C) (fxA A 33) none res) 0 0 (fxA A 33) := by
  refine Met.ofW (cc := cX11_rowOf) (maxL := 10) (ret := none) (by decide) rfl ?_
  intro p e s m args below meth c s₁ B hml hv
  obtain ⟨rfl, hP, hK, hZ⟩ := hv
  have cx : Cxx D C adK adV (fxA A 33) p s m _ meth c cX11_rowOf 10 RX11 none := ⟨B.exec, B.bytes, hml, findClass_of_methodNamed B.named, fun w h => atoms_spec (ws := Cond.code yX11_rowOf cX11_rowOf 10 none :: wsL_law) B.pre w (List.mem_cons_of_mem _ h), hK, B.returns, B.notSynchronized, hZ⟩
  obtain ⟨hx, hb, -, hown, hts, -, hr, hlk, -⟩ := id cx
  have hS : va_S (fxA A 33) s.heap s.heap [] := va_S.rf
  have hl := lv_entry ([.ref (A 0), .int x1, .int x2, .int x3]) (n := 10) (Nat.le_of_ble_eq_true rfl)
  rw [lg_entry_eq]
  generalize (lg_sl ([.ref (A 0), .int x1, .int x2, .int x3]) ++ List.replicate (10 - (lg_sl ([.ref (A 0), .int x1, .int x2, .int x3])).length) Slot.unset).toArray = ls at hl ⊢
  have hl : lv_has ls 10 [(0, .ref (A 0)), (1, .int x1), (2, .int x2), (3, .int x3)] := hl
  show W p l e rm_X11_rowOf s m _ below meth c s.heap [] 0 0 _ _
  refine lv_iload_n hx hb dX11_rowOf_0 rfl (lv_at hl 1 rfl) ?_
  refine lv_istore (lv' := [(4, .int x1), (0, .ref (A 0)), (1, .int x1), (2, .int x2), (3, .int x3)]) hx hb dX11_rowOf_1 hl (by decide) rfl (fun ls hl => ?_)
  refine lv_iload_n hx hb dX11_rowOf_3 rfl (lv_at hl 4 rfl) ?_
  refine lv_istore (lv' := [(5, .int x3), (4, .int x1), (0, .ref (A 0)), (1, .int x1), (2, .int x2), (3, .int x3)]) hx hb dX11_rowOf_4 hl (by decide) rfl (fun ls hl => ?_)
  refine lv_iconst (v := 0) hx hb dX11_rowOf_6 (by decide) ?_
  refine lv_istore (lv' := [(6, .int 0), (5, .int x3), (4, .int x1), (0, .ref (A 0)), (1, .int x1), (2, .int x2), (3, .int x3)]) hx hb dX11_rowOf_7 hl (by decide) rfl (fun ls hl => ?_)
  refine lv_iconst (v := 0) hx hb dX11_rowOf_9 (by decide) ?_
  refine lv_istore (lv' := [(7, .int 0), (6, .int 0), (5, .int x3), (4, .int x1), (0, .ref (A 0)), (1, .int x1), (2, .int x2), (3, .int x3)]) hx hb dX11_rowOf_10 hl (by decide) rfl (fun ls hl => ?_)
  exact w_F_mX11_rowOf_12 hA cx FU _ _ _ _ _ _ _ _ _ hf (lv_sub hl [4, 6, 3, 2, 1, 0] rfl) hP hS
