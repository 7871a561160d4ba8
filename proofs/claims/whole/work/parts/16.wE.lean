set_option maxHeartbeats 4000000 in
set_option maxRecDepth 100000 in
theorem ct_xX0_note (l : Launch) (D : va_G) (C : Nat → ClassId) (A adK adV : Nat → Nat) (hA : apA A 60) {x1 : Int32} {x2 : Int32} {x3 : Int32} {σ : St} {res : St} (hf : F_xX0_note x1 x2 x3 σ = some res) : Met l yX0_note (Cond.code yX0_note cX0_note 4 none :: wsL_law) rm_X0_note (Pcx D C (wX A C) adK adV (fxA A 60) [.ref (A 37), .int x1, .int x2, .int x3] σ) (Qcx D (wX A C) (fxA A 60) none res) 0 0 (fxA A 60) := by
  refine Met.ofW (cc := cX0_note) (maxL := 4) (ret := none) (by decide) rfl ?_
  intro p e s m args below meth c s₁ B hml hv
  obtain ⟨rfl, hP, hK, hZ⟩ := hv
  have cx : Cxx D C adK adV (fxA A 60) p s m _ meth c cX0_note 4 RX0 none := ⟨B.exec, B.bytes, hml, findClass_of_methodNamed B.named, fun w h => atoms_spec (ws := Cond.code yX0_note cX0_note 4 none :: wsL_law) B.pre w (List.mem_cons_of_mem _ h), hK, B.returns, B.notSynchronized, hZ⟩
  obtain ⟨hx, hb, -, hown, hts, -, hr, hlk, -⟩ := id cx
  have hS : va_S (fxA A 60) s.heap s.heap [] := va_S.rf
  have hl := lv_entry ([.ref (A 37), .int x1, .int x2, .int x3]) (n := 4) (Nat.le_of_ble_eq_true rfl)
  rw [lg_entry_eq]
  generalize (lg_sl ([.ref (A 37), .int x1, .int x2, .int x3]) ++ List.replicate (4 - (lg_sl ([.ref (A 37), .int x1, .int x2, .int x3])).length) Slot.unset).toArray = ls at hl ⊢
  have hl : lv_has ls 4 [(0, .ref (A 37)), (1, .int x1), (2, .int x2), (3, .int x3)] := hl
  show W p l e rm_X0_note s m _ below meth c s.heap [] 0 0 _ _
  refine lv_aload_n hx hb dX0_note_0 rfl (lv_at hl 0 rfl) ?_
  refine gX_37_3 hx hb hts hown hK hP (v := (σ.1 18)) rfl (hts _ kw_620) dX0_note_1 ?_
  refine lv_if_lt (tgt := 37) hx hb dX0_note_4 (by decide) (fun c1 => ?_) (fun c1 => ?_)
  · have hf := (if_pos c1).symm.trans hf
    exact cx_vret cx hP hS hf dX0_note_37
  · have hf := (if_neg c1).symm.trans hf
    refine lv_aload_n hx hb dX0_note_7 rfl (lv_at hl 0 rfl) ?_
    refine gX_37_3 hx hb hts hown hK hP (v := (σ.1 18)) rfl (hts _ kw_620) dX0_note_8 ?_
    refine lv_sipush (v := 2000) hx hb dX0_note_11 (by decide) ?_
    refine lv_icmp_ge (tgt := 37) hx hb dX0_note_14 (by decide) (fun c2 => ?_) (fun c2 => ?_)
    · have hf := (if_pos c2).symm.trans hf
      exact cx_vret cx hP hS hf dX0_note_37
    · have hf := (if_neg c2).symm.trans hf
      refine lv_aload_n hx hb dX0_note_17 rfl (lv_at hl 0 rfl) ?_
      refine gX_37_0 hx hb hts hown hK hP (hts _ kw_116) dX0_note_18 ?_
      refine lv_aload_n hx hb dX0_note_21 rfl (lv_at hl 0 rfl) ?_
      refine gX_37_3 hx hb hts hown hK hP (v := (σ.1 18)) rfl (hts _ kw_620) dX0_note_22 ?_
      refine lv_iload_n hx hb dX0_note_25 rfl (lv_at hl 1 rfl) ?_
      refine lv_iload_n hx hb dX0_note_26 rfl (lv_at hl 2 rfl) ?_
      refine lv_bipush (v := 6) hx hb dX0_note_27 (by decide) ?_
      refine lv_ishl hx hb dX0_note_29 ?_
      refine lv_ior hx hb dX0_note_30 ?_
      refine lv_iload_n hx hb dX0_note_31 rfl (lv_at hl 3 rfl) ?_
      refine lv_bipush (v := 12) hx hb dX0_note_32 (by decide) ?_
      refine lv_ishl hx hb dX0_note_34 ?_
      refine lv_ior hx hb dX0_note_35 ?_
      obtain ⟨z3, hf⟩ := gd_some hf
      refine pX_a38 hx hb hK hP hA hS (ib_in z3) dX0_note_36 (fun H locs hP hS => ?_)
      have hP : va_P D vwCl (wX A C (sA σ 38 (upd (σ.2.1 38) (σ.1 18).toNatClampNeg ((x1 ||| (x2 <<< (6 &&& 31))) ||| (x3 <<< (12 &&& 31)))))) H := hP
      exact cx_vret cx hP hS hf dX0_note_37
set_option maxHeartbeats 4000000 in
set_option maxRecDepth 100000 in
theorem ct_xX0_print (l : Launch) (D : va_G) (C : Nat → ClassId) (A adK adV : Nat → Nat) (hA : apA A 60)  {σ : St} {res : St} (hf : F_xX0_print σ = some res) : Met l yX0_print (Cond.code yX0_print cX0_print 1 none :: wsL_law) rm_X0_print (Pcx D C (wX A C) adK adV (fxA A 60) [.ref (A 37)] σ) (Qcx D (wX A C) (fxA A 60) none res) 0 0 (fxA A 60) := by
  refine Met.ofW (cc := cX0_print) (maxL := 1) (ret := none) (by decide) rfl ?_
  intro p e s m args below meth c s₁ B hml hv
  obtain ⟨rfl, hP, hK, hZ⟩ := hv
  have cx : Cxx D C adK adV (fxA A 60) p s m _ meth c cX0_print 1 RX0 none := ⟨B.exec, B.bytes, hml, findClass_of_methodNamed B.named, fun w h => atoms_spec (ws := Cond.code yX0_print cX0_print 1 none :: wsL_law) B.pre w (List.mem_cons_of_mem _ h), hK, B.returns, B.notSynchronized, hZ⟩
  obtain ⟨hx, hb, -, hown, hts, -, hr, hlk, -⟩ := id cx
  have hS : va_S (fxA A 60) s.heap s.heap [] := va_S.rf
  have hl := lv_entry ([.ref (A 37)]) (n := 1) (Nat.le_of_ble_eq_true rfl)
  rw [lg_entry_eq]
  generalize (lg_sl ([.ref (A 37)]) ++ List.replicate (1 - (lg_sl ([.ref (A 37)])).length) Slot.unset).toArray = ls at hl ⊢
  have hl : lv_has ls 1 [(0, .ref (A 37))] := hl
  show W p l e rm_X0_print s m _ below meth c s.heap [] 0 0 _ _
  refine lv_aload_n hx hb dX0_print_0 rfl (lv_at hl 0 rfl) ?_
  refine gX_37_7 hx hb hts hown hK hP (v := (σ.1 22)) rfl (hts _ kw_625) dX0_print_1 ?_
  refine lv_if_lt (tgt := 29) hx hb dX0_print_4 (by decide) (fun c1 => ?_) (fun c1 => ?_)
  · have hf := (if_pos c1).symm.trans hf
    refine lv_aload_n hx hb dX0_print_29 rfl (lv_at hl 0 rfl) ?_
    refine lv_dup hx hb dX0_print_30 rfl ?_
    refine gX_37_7 hx hb hts hown hK hP (v := (σ.1 22)) rfl (hts _ kw_625) dX0_print_31 ?_
    refine lv_iconst (v := 1) hx hb dX0_print_34 (by decide) ?_
    refine lv_iadd hx hb dX0_print_35 ?_
    refine pX_37_7 hx hb hts hown hK hP hA hS (hts _ kw_625) dX0_print_36 (fun H locs hP hS => ?_)
    have hP : va_P D vwCl (wX A C (sI σ 22 ((σ.1 22) + 1))) H := hP
    exact cx_vret cx hP hS hf dX0_print_39
  · have hf := (if_neg c1).symm.trans hf
    refine lv_aload_n hx hb dX0_print_7 rfl (lv_at hl 0 rfl) ?_
    refine gX_37_7 hx hb hts hown hK hP (v := (σ.1 22)) rfl (hts _ kw_625) dX0_print_8 ?_
    refine lv_bipush (v := 100) hx hb dX0_print_11 (by decide) ?_
    refine lv_icmp_ge (tgt := 29) hx hb dX0_print_13 (by decide) (fun c2 => ?_) (fun c2 => ?_)
    · have hf := (if_pos c2).symm.trans hf
      refine lv_aload_n hx hb dX0_print_29 rfl (lv_at hl 0 rfl) ?_
      refine lv_dup hx hb dX0_print_30 rfl ?_
      refine gX_37_7 hx hb hts hown hK hP (v := (σ.1 22)) rfl (hts _ kw_625) dX0_print_31 ?_
      refine lv_iconst (v := 1) hx hb dX0_print_34 (by decide) ?_
      refine lv_iadd hx hb dX0_print_35 ?_
      refine pX_37_7 hx hb hts hown hK hP hA hS (hts _ kw_625) dX0_print_36 (fun H locs hP hS => ?_)
      have hP : va_P D vwCl (wX A C (sI σ 22 ((σ.1 22) + 1))) H := hP
      exact cx_vret cx hP hS hf dX0_print_39
    · have hf := (if_neg c2).symm.trans hf
      refine lv_aload_n hx hb dX0_print_16 rfl (lv_at hl 0 rfl) ?_
      refine gX_37_2 hx hb hts hown hK hP (hts _ kw_118) dX0_print_17 ?_
      refine lv_aload_n hx hb dX0_print_20 rfl (lv_at hl 0 rfl) ?_
      refine gX_37_7 hx hb hts hown hK hP (v := (σ.1 22)) rfl (hts _ kw_625) dX0_print_21 ?_
      refine lv_aload_n hx hb dX0_print_24 rfl (lv_at hl 0 rfl) ?_
      refine gX_37_5 hx hb hts hown hK hP (v := (σ.1 20)) rfl (hts _ kw_622) dX0_print_25 ?_
      obtain ⟨z3, hf⟩ := gd_some hf
      refine pX_a40 hx hb hK hP hA hS (ib_in z3) dX0_print_28 (fun H locs hP hS => ?_)
      refine lv_aload_n hx hb dX0_print_29 rfl (lv_at hl 0 rfl) ?_
      refine lv_dup hx hb dX0_print_30 rfl ?_
      refine gX_37_7 hx hb hts hown hK hP (v := (σ.1 22)) rfl (hts _ kw_625) dX0_print_31 ?_
      refine lv_iconst (v := 1) hx hb dX0_print_34 (by decide) ?_
      refine lv_iadd hx hb dX0_print_35 ?_
      refine pX_37_7 hx hb hts hown hK hP hA hS (hts _ kw_625) dX0_print_36 (fun H locs hP hS => ?_)
      have hP : va_P D vwCl (wX A C (sA (sI σ 22 ((σ.1 22) + 1)) 40 (upd (σ.2.1 40) (σ.1 22).toNatClampNeg (σ.1 20)))) H := hP
      exact cx_vret cx hP hS hf dX0_print_39
set_option maxHeartbeats 4000000 in
set_option maxRecDepth 100000 in
theorem ct_xX0_work (l : Launch) (D : va_G) (C : Nat → ClassId) (A adK adV : Nat → Nat) (hA : apA A 60) {x1 : Int32} {x2 : Int32} {σ : St} {res : St} (hf : F_xX0_work x1 x2 σ = some res) : Met l yX0_work (Cond.code yX0_work cX0_work 3 none :: wsL_law) rm_X0_work (Pcx D C (wX A C) adK adV (fxA A 60) [.ref (A 37), .int x1, .int x2] σ) (Qcx D (wX A C) (fxA A 60) none res) 0 0 (fxA A 60) := by
  refine Met.ofW (cc := cX0_work) (maxL := 3) (ret := none) (by decide) rfl ?_
  intro p e s m args below meth c s₁ B hml hv
  obtain ⟨rfl, hP, hK, hZ⟩ := hv
  have cx : Cxx D C adK adV (fxA A 60) p s m _ meth c cX0_work 3 RX0 none := ⟨B.exec, B.bytes, hml, findClass_of_methodNamed B.named, fun w h => atoms_spec (ws := Cond.code yX0_work cX0_work 3 none :: wsL_law) B.pre w (List.mem_cons_of_mem _ h), hK, B.returns, B.notSynchronized, hZ⟩
  obtain ⟨hx, hb, -, hown, hts, -, hr, hlk, -⟩ := id cx
  have hS : va_S (fxA A 60) s.heap s.heap [] := va_S.rf
  have hl := lv_entry ([.ref (A 37), .int x1, .int x2]) (n := 3) (Nat.le_of_ble_eq_true rfl)
  rw [lg_entry_eq]
  generalize (lg_sl ([.ref (A 37), .int x1, .int x2]) ++ List.replicate (3 - (lg_sl ([.ref (A 37), .int x1, .int x2])).length) Slot.unset).toArray = ls at hl ⊢
  have hl : lv_has ls 3 [(0, .ref (A 37)), (1, .int x1), (2, .int x2)] := hl
  show W p l e rm_X0_work s m _ below meth c s.heap [] 0 0 _ _
  refine lv_iload_n hx hb dX0_work_0 rfl (lv_at hl 2 rfl) ?_
  refine lv_if_lt (tgt := 10) hx hb dX0_work_1 (by decide) (fun c1 => ?_) (fun c1 => ?_)
  · have hf := (if_pos c1).symm.trans hf
    exact cx_vret cx hP hS hf dX0_work_10
  · have hf := (if_neg c1).symm.trans hf
    refine lv_iload_n hx hb dX0_work_4 rfl (lv_at hl 2 rfl) ?_
    refine lv_bipush (v := 40) hx hb dX0_work_5 (by decide) ?_
    refine lv_icmp_lt (tgt := 11) hx hb dX0_work_7 (by decide) (fun c2 => ?_) (fun c2 => ?_)
    · have hf := (if_pos c2).symm.trans hf
      refine lv_iload_n hx hb dX0_work_11 rfl (lv_at hl 1 rfl) ?_
      by_cases c3 : x1 = 1
      · have hf := (if_pos c3).symm.trans hf
        refine lv_tableIn (tgt := 64) hx hb dX0_work_12 (by rw [c3]; decide) (by rw [c3]; decide) (by rw [c3]; rfl) (by decide) ?_
        refine lv_aload_n hx hb dX0_work_64 rfl (lv_at hl 0 rfl) ?_
        refine lv_aload_n hx hb dX0_work_65 rfl (lv_at hl 0 rfl) ?_
        refine gX_37_1 hx hb hts hown hK hP (hts _ kw_117) dX0_work_66 ?_
        refine lv_iload_n hx hb dX0_work_69 rfl (lv_at hl 2 rfl) ?_
        obtain ⟨z4, hf⟩ := gd_some hf
        refine gX_a39 hx hb hK hP (ib_in z4) (v := (σ.2.1 39 x2.toNatClampNeg)) rfl dX0_work_70 ?_
        refine pX_37_5 hx hb hts hown hK hP hA hS (hts _ kw_622) dX0_work_71 (fun H locs hP hS => ?_)
        refine lv_goto (tgt := 164) hx hb dX0_work_74 (by decide) ?_
        have hP : va_P D vwCl (wX A C (sI σ 20 (σ.2.1 39 x2.toNatClampNeg))) H := hP
        exact cx_vret cx hP hS hf dX0_work_164
      have hf := (if_neg c3).symm.trans hf
      by_cases c5 : x1 = 2
      · have hf := (if_pos c5).symm.trans hf
        refine lv_tableIn (tgt := 77) hx hb dX0_work_12 (by rw [c5]; decide) (by rw [c5]; decide) (by rw [c5]; rfl) (by decide) ?_
        refine lv_aload_n hx hb dX0_work_77 rfl (lv_at hl 0 rfl) ?_
        refine lv_dup hx hb dX0_work_78 rfl ?_
        refine gX_37_5 hx hb hts hown hK hP (v := (σ.1 20)) rfl (hts _ kw_622) dX0_work_79 ?_
        refine lv_aload_n hx hb dX0_work_82 rfl (lv_at hl 0 rfl) ?_
        refine gX_37_1 hx hb hts hown hK hP (hts _ kw_117) dX0_work_83 ?_
        refine lv_iload_n hx hb dX0_work_86 rfl (lv_at hl 2 rfl) ?_
        obtain ⟨z6, hf⟩ := gd_some hf
        refine gX_a39 hx hb hK hP (ib_in z6) (v := (σ.2.1 39 x2.toNatClampNeg)) rfl dX0_work_87 ?_
        refine lv_iadd hx hb dX0_work_88 ?_
        refine pX_37_5 hx hb hts hown hK hP hA hS (hts _ kw_622) dX0_work_89 (fun H locs hP hS => ?_)
        refine lv_goto (tgt := 164) hx hb dX0_work_92 (by decide) ?_
        have hP : va_P D vwCl (wX A C (sI σ 20 ((σ.1 20) + (σ.2.1 39 x2.toNatClampNeg)))) H := hP
        exact cx_vret cx hP hS hf dX0_work_164
      have hf := (if_neg c5).symm.trans hf
      by_cases c7 : x1 = 3
      · have hf := (if_pos c7).symm.trans hf
        refine lv_tableIn (tgt := 95) hx hb dX0_work_12 (by rw [c7]; decide) (by rw [c7]; decide) (by rw [c7]; rfl) (by decide) ?_
        refine lv_aload_n hx hb dX0_work_95 rfl (lv_at hl 0 rfl) ?_
        refine lv_dup hx hb dX0_work_96 rfl ?_
        refine gX_37_5 hx hb hts hown hK hP (v := (σ.1 20)) rfl (hts _ kw_622) dX0_work_97 ?_
        refine lv_aload_n hx hb dX0_work_100 rfl (lv_at hl 0 rfl) ?_
        refine gX_37_1 hx hb hts hown hK hP (hts _ kw_117) dX0_work_101 ?_
        refine lv_iload_n hx hb dX0_work_104 rfl (lv_at hl 2 rfl) ?_
        obtain ⟨z8, hf⟩ := gd_some hf
        refine gX_a39 hx hb hK hP (ib_in z8) (v := (σ.2.1 39 x2.toNatClampNeg)) rfl dX0_work_105 ?_
        refine lv_isub hx hb dX0_work_106 ?_
        refine pX_37_5 hx hb hts hown hK hP hA hS (hts _ kw_622) dX0_work_107 (fun H locs hP hS => ?_)
        refine lv_goto (tgt := 164) hx hb dX0_work_110 (by decide) ?_
        have hP : va_P D vwCl (wX A C (sI σ 20 ((σ.1 20) - (σ.2.1 39 x2.toNatClampNeg)))) H := hP
        exact cx_vret cx hP hS hf dX0_work_164
      have hf := (if_neg c7).symm.trans hf
      by_cases c9 : x1 = 4
      · have hf := (if_pos c9).symm.trans hf
        refine lv_tableIn (tgt := 113) hx hb dX0_work_12 (by rw [c9]; decide) (by rw [c9]; decide) (by rw [c9]; rfl) (by decide) ?_
        refine lv_aload_n hx hb dX0_work_113 rfl (lv_at hl 0 rfl) ?_
        refine lv_dup hx hb dX0_work_114 rfl ?_
        refine gX_37_5 hx hb hts hown hK hP (v := (σ.1 20)) rfl (hts _ kw_622) dX0_work_115 ?_
        refine lv_aload_n hx hb dX0_work_118 rfl (lv_at hl 0 rfl) ?_
        refine gX_37_1 hx hb hts hown hK hP (hts _ kw_117) dX0_work_119 ?_
        refine lv_iload_n hx hb dX0_work_122 rfl (lv_at hl 2 rfl) ?_
        obtain ⟨z10, hf⟩ := gd_some hf
        refine gX_a39 hx hb hK hP (ib_in z10) (v := (σ.2.1 39 x2.toNatClampNeg)) rfl dX0_work_123 ?_
        refine lv_imul hx hb dX0_work_124 ?_
        refine pX_37_5 hx hb hts hown hK hP hA hS (hts _ kw_622) dX0_work_125 (fun H locs hP hS => ?_)
        refine lv_goto (tgt := 164) hx hb dX0_work_128 (by decide) ?_
        have hP : va_P D vwCl (wX A C (sI σ 20 ((σ.1 20) * (σ.2.1 39 x2.toNatClampNeg)))) H := hP
        exact cx_vret cx hP hS hf dX0_work_164
      have hf := (if_neg c9).symm.trans hf
      by_cases c11 : x1 = 5
      · have hf := (if_pos c11).symm.trans hf
        refine lv_tableIn (tgt := 131) hx hb dX0_work_12 (by rw [c11]; decide) (by rw [c11]; decide) (by rw [c11]; rfl) (by decide) ?_
        refine lv_aload_n hx hb dX0_work_131 rfl (lv_at hl 0 rfl) ?_
        refine gX_37_1 hx hb hts hown hK hP (hts _ kw_117) dX0_work_132 ?_
        refine lv_iload_n hx hb dX0_work_135 rfl (lv_at hl 2 rfl) ?_
        refine lv_aload_n hx hb dX0_work_136 rfl (lv_at hl 0 rfl) ?_
        refine gX_37_5 hx hb hts hown hK hP (v := (σ.1 20)) rfl (hts _ kw_622) dX0_work_137 ?_
        obtain ⟨z12, hf⟩ := gd_some hf
        refine pX_a39 hx hb hK hP hA hS (ib_in z12) dX0_work_140 (fun H locs hP hS => ?_)
        refine lv_goto (tgt := 164) hx hb dX0_work_141 (by decide) ?_
        have hP : va_P D vwCl (wX A C (sA σ 39 (upd (σ.2.1 39) x2.toNatClampNeg (σ.1 20)))) H := hP
        exact cx_vret cx hP hS hf dX0_work_164
      have hf := (if_neg c11).symm.trans hf
      by_cases c13 : x1 = 6
      · have hf := (if_pos c13).symm.trans hf
        refine lv_tableIn (tgt := 164) hx hb dX0_work_12 (by rw [c13]; decide) (by rw [c13]; decide) (by rw [c13]; rfl) (by decide) ?_
        exact cx_vret cx hP hS hf dX0_work_164
      have hf := (if_neg c13).symm.trans hf
      by_cases c14 : x1 = 7
      · have hf := (if_pos c14).symm.trans hf
        refine lv_tableIn (tgt := 164) hx hb dX0_work_12 (by rw [c14]; decide) (by rw [c14]; decide) (by rw [c14]; rfl) (by decide) ?_
        exact cx_vret cx hP hS hf dX0_work_164
      have hf := (if_neg c14).symm.trans hf
      by_cases c15 : x1 = 8
      · have hf := (if_pos c15).symm.trans hf
        refine lv_tableIn (tgt := 144) hx hb dX0_work_12 (by rw [c15]; decide) (by rw [c15]; decide) (by rw [c15]; rfl) (by decide) ?_
        refine lv_aload_n hx hb dX0_work_144 rfl (lv_at hl 0 rfl) ?_
        obtain ⟨σ_r16, h_r16, hf⟩ := bv_some hf
        refine cx_V (As := []) (rest := []) cx (ct_xX0_print l D C A adK adV hA h_r16) (cw_X0_90 hts ⟨Nat.le_of_ble_eq_true rfl, Nat.le_of_ble_eq_true rfl⟩) (va_recv hK hP (ci := 0) (q0 := 37) rfl (wX_37 A C _)) hP hS rfl hl.1 rfl (Nat.le_of_ble_eq_true rfl) dX0_work_145 ⟨Nat.zero_le _, Nat.zero_le _⟩ (fun H locs hP hS => ?_)
        refine lv_goto (tgt := 164) hx hb dX0_work_148 (by decide) ?_
        exact cx_vret cx hP hS hf dX0_work_164
      have hf := (if_neg c15).symm.trans hf
      by_cases c17 : x1 = 9
      · have hf := (if_pos c17).symm.trans hf
        refine lv_tableIn (tgt := 151) hx hb dX0_work_12 (by rw [c17]; decide) (by rw [c17]; decide) (by rw [c17]; rfl) (by decide) ?_
        refine lv_aload_n hx hb dX0_work_151 rfl (lv_at hl 0 rfl) ?_
        refine lv_dup hx hb dX0_work_152 rfl ?_
        refine gX_37_5 hx hb hts hown hK hP (v := (σ.1 20)) rfl (hts _ kw_622) dX0_work_153 ?_
        refine lv_iconst (v := 2) hx hb dX0_work_156 (by decide) ?_
        refine lv_idiv hx hb dX0_work_157 (by decide) ?_
        refine pX_37_5 hx hb hts hown hK hP hA hS (hts _ kw_622) dX0_work_158 (fun H locs hP hS => ?_)
        refine lv_goto (tgt := 164) hx hb dX0_work_161 (by decide) ?_
        have hP : va_P D vwCl (wX A C (sI σ 20 ((σ.1 20) / 2))) H := hP
        exact cx_vret cx hP hS hf dX0_work_164
      have hf := (if_neg c17).symm.trans hf
      refine lv_tableOut (tgt := 164) hx hb dX0_work_12 (sw9_1 c3 c5 c7 c9 c11 c13 c14 c15 c17) (by decide) ?_
      exact cx_vret cx hP hS hf dX0_work_164
    · have hf := (if_neg c2).symm.trans hf
      exact cx_vret cx hP hS hf dX0_work_10
set_option maxHeartbeats 4000000 in
set_option maxRecDepth 100000 in
theorem w_F_xX0_goStep_144 {p : Program} {l : Launch} {e : Env} {s : State} {m : MethodId} {args : Array Value} {below : List Frame} {meth : Method} {c : Code} {D : va_G} {C : Nat → ClassId} {A adK adV : Nat → Nat} (hA : apA A 60) (cx : Cxx D C adK adV (fxA A 60) p s m args meth c cX0_goStep 7 RX0 none) {res : St} : ∀ (x4 : Int32) (x5 : Int32) (y0 : Int32) (σ : St) (H : Heap) (locs : List Loc) (ls : Array Slot), F_xX0_goStep_144 x4 x5 y0 σ = some res → lv_has ls 7 [(0, .ref (A 37)), (4, .int x4), (5, .int x5)] → va_P D vwCl (wX A C σ) H → va_S (fxA A 60) s.heap H locs → W p l e rm_X0_goStep s m args below meth c H locs 0 0 (MQ below (Qcx D (wX A C) (fxA A 60) none res) args s 0 0 (fxA A 60)) (F0 m 144 ls [.int y0]) := by
  obtain ⟨hx, hb, hml, hown, hts, hK, hr, hlk, hZ⟩ := id cx
  intro x4 x5 y0 σ H locs ls hf hl hP hS
  refine lv_istore (lv' := [(6, .int y0), (0, .ref (A 37)), (4, .int x4), (5, .int x5)]) hx hb dX0_goStep_144 hl (by decide) rfl (fun ls hl => ?_)
  refine lv_aload_n hx hb dX0_goStep_146 rfl (lv_at hl 1 rfl) ?_
  refine lv_iload hx hb dX0_goStep_147 (lv_at hl 0 rfl) ?_
  refine lv_if_eq (tgt := 157) hx hb dX0_goStep_149 (by decide) (fun c1 => ?_) (fun c1 => ?_)
  · have hf := (if_pos c1).symm.trans hf
    refine lv_iload hx hb dX0_goStep_157 (lv_at hl 3 rfl) ?_
    refine pX_37_6 hx hb hts hown hK hP hA hS (hts _ kw_624) dX0_goStep_159 (fun H locs hP hS => ?_)
    have hP : va_P D vwCl (wX A C (sI σ 21 x5)) H := hP
    exact cx_vret cx hP hS hf dX0_goStep_162
  · have hf := (if_neg c1).symm.trans hf
    refine lv_iload hx hb dX0_goStep_152 (lv_at hl 2 rfl) ?_
    refine lv_goto (tgt := 159) hx hb dX0_goStep_154 (by decide) ?_
    refine pX_37_6 hx hb hts hown hK hP hA hS (hts _ kw_624) dX0_goStep_159 (fun H locs hP hS => ?_)
    have hP : va_P D vwCl (wX A C (sI σ 21 x4)) H := hP
    exact cx_vret cx hP hS hf dX0_goStep_162
set_option maxHeartbeats 4000000 in
set_option maxRecDepth 100000 in
theorem w_F_xX0_goStep_126 {p : Program} {l : Launch} {e : Env} {s : State} {m : MethodId} {args : Array Value} {below : List Frame} {meth : Method} {c : Code} {D : va_G} {C : Nat → ClassId} {A adK adV : Nat → Nat} (hA : apA A 60) (cx : Cxx D C adK adV (fxA A 60) p s m args meth c cX0_goStep 7 RX0 none) {res : St} : ∀ (x3 : Int32) (x4 : Int32) (x5 : Int32) (σ : St) (H : Heap) (locs : List Loc) (ls : Array Slot), F_xX0_goStep_126 x3 x4 x5 σ = some res → lv_has ls 7 [(0, .ref (A 37)), (3, .int x3), (4, .int x4), (5, .int x5)] → va_P D vwCl (wX A C σ) H → va_S (fxA A 60) s.heap H locs → W p l e rm_X0_goStep s m args below meth c H locs 0 0 (MQ below (Qcx D (wX A C) (fxA A 60) none res) args s 0 0 (fxA A 60)) (F0 m 126 ls []) := by
  obtain ⟨hx, hb, hml, hown, hts, hK, hr, hlk, hZ⟩ := id cx
  intro x3 x4 x5 σ H locs ls hf hl hP hS
  refine lv_iload_n hx hb dX0_goStep_126 rfl (lv_at hl 1 rfl) ?_
  refine lv_bipush (v := 7) hx hb dX0_goStep_127 (by decide) ?_
  refine lv_icmp_ne (tgt := 143) hx hb dX0_goStep_129 (by decide) (fun c2 => ?_) (fun c2 => ?_)
  · have hf := (if_neg c2).symm.trans hf
    refine lv_iconst (v := 0) hx hb dX0_goStep_143 (by decide) ?_
    exact w_F_xX0_goStep_144 hA cx _ _ _ _ _ _ _ hf (lv_sub hl [0, 2, 3] rfl) hP hS
  · have hf := (if_pos c2).symm.trans hf
    refine lv_aload_n hx hb dX0_goStep_132 rfl (lv_at hl 0 rfl) ?_
    refine gX_37_5 hx hb hts hown hK hP (v := (σ.1 20)) rfl (hts _ kw_622) dX0_goStep_133 ?_
    refine lv_if_ne (tgt := 143) hx hb dX0_goStep_136 (by decide) (fun c3 => ?_) (fun c3 => ?_)
    · have hf := (if_neg c3).symm.trans hf
      refine lv_iconst (v := 0) hx hb dX0_goStep_143 (by decide) ?_
      exact w_F_xX0_goStep_144 hA cx _ _ _ _ _ _ _ hf (lv_sub hl [0, 2, 3] rfl) hP hS
    · have hf := (if_pos c3).symm.trans hf
      refine lv_iconst (v := 1) hx hb dX0_goStep_139 (by decide) ?_
      refine lv_goto (tgt := 144) hx hb dX0_goStep_140 (by decide) ?_
      exact w_F_xX0_goStep_144 hA cx _ _ _ _ _ _ _ hf (lv_sub hl [0, 2, 3] rfl) hP hS
set_option maxHeartbeats 4000000 in
set_option maxRecDepth 100000 in
theorem w_F_xX0_goStep_86 {p : Program} {l : Launch} {e : Env} {s : State} {m : MethodId} {args : Array Value} {below : List Frame} {meth : Method} {c : Code} {D : va_G} {C : Nat → ClassId} {A adK adV : Nat → Nat} (hA : apA A 60) (cx : Cxx D C adK adV (fxA A 60) p s m args meth c cX0_goStep 7 RX0 none) {res : St} : ∀ (x3 : Int32) (x4 : Int32) (x5 : Int32) (y1 : Int32) (y2 : Int32) (σ : St) (H : Heap) (locs : List Loc) (ls : Array Slot), F_xX0_goStep_86 x3 x4 x5 y1 y2 σ = some res → lv_has ls 7 [(0, .ref (A 37)), (3, .int x3), (4, .int x4), (5, .int x5)] → va_P D vwCl (wX A C σ) H → va_S (fxA A 60) s.heap H locs → W p l e rm_X0_goStep s m args below meth c H locs 0 0 (MQ below (Qcx D (wX A C) (fxA A 60) none res) args s 0 0 (fxA A 60)) (F0 m 86 ls [.int y2, .int y1, .ref (A 37)]) := by
  obtain ⟨hx, hb, hml, hown, hts, hK, hr, hlk, hZ⟩ := id cx
  intro x3 x4 x5 y1 y2 σ H locs ls hf hl hP hS
  refine lv_aload_n hx hb dX0_goStep_86 rfl (lv_at hl 0 rfl) ?_
  refine lv_iload_n hx hb dX0_goStep_87 rfl (lv_at hl 1 rfl) ?_
  refine lv_iload hx hb dX0_goStep_88 (lv_at hl 2 rfl) ?_
  obtain ⟨⟨r4, σ_r4⟩, h_r4, hf⟩ := bd_some hf
  refine cx_V (As := [.int x3, .int x4]) (rest := [.int y2, .int y1, .ref (A 37)]) cx (ct_xX0_extraTime l D C A adK adV hA h_r4) (cw_X0_77 hts ⟨Nat.le_of_ble_eq_true rfl, Nat.le_of_ble_eq_true rfl⟩) (va_recv hK hP (ci := 0) (q0 := 37) rfl (wX_37 A C _)) hP hS rfl hl.1 rfl (Nat.le_of_ble_eq_true rfl) dX0_goStep_90 ⟨Nat.zero_le _, Nat.zero_le _⟩ (fun H locs hP hS => ?_)
  obtain ⟨σ_r5, h_r5, hf⟩ := bv_some hf
  refine cx_V (As := [.int y1, .int y2, .int r4]) (rest := []) cx (ct_xX0_note l D C A adK adV hA h_r5) (cw_X0_60 hts ⟨Nat.le_of_ble_eq_true rfl, Nat.le_of_ble_eq_true rfl⟩) (va_recv hK hP (ci := 0) (q0 := 37) rfl (wX_37 A C _)) hP hS rfl hl.1 rfl (Nat.le_of_ble_eq_true rfl) dX0_goStep_93 ⟨Nat.zero_le _, Nat.zero_le _⟩ (fun H locs hP hS => ?_)
  refine lv_iload_n hx hb dX0_goStep_96 rfl (lv_at hl 1 rfl) ?_
  refine lv_if_ne (tgt := 106) hx hb dX0_goStep_97 (by decide) (fun c6 => ?_) (fun c6 => ?_)
  · have hf := (if_neg c6).symm.trans hf
    refine lv_aload_n hx hb dX0_goStep_106 rfl (lv_at hl 0 rfl) ?_
    refine lv_iload_n hx hb dX0_goStep_107 rfl (lv_at hl 1 rfl) ?_
    refine lv_iload hx hb dX0_goStep_108 (lv_at hl 2 rfl) ?_
    obtain ⟨σ_r7, h_r7, hf⟩ := bv_some hf
    refine cx_V (As := [.int x3, .int x4]) (rest := []) cx (ct_xX0_work l D C A adK adV hA h_r7) (cw_X0_81 hts ⟨Nat.le_of_ble_eq_true rfl, Nat.le_of_ble_eq_true rfl⟩) (va_recv hK hP (ci := 0) (q0 := 37) rfl (wX_37 A C _)) hP hS rfl hl.1 rfl (Nat.le_of_ble_eq_true rfl) dX0_goStep_110 ⟨Nat.zero_le _, Nat.zero_le _⟩ (fun H locs hP hS => ?_)
    refine lv_iload_n hx hb dX0_goStep_113 rfl (lv_at hl 1 rfl) ?_
    refine lv_bipush (v := 6) hx hb dX0_goStep_114 (by decide) ?_
    refine lv_icmp_ne (tgt := 126) hx hb dX0_goStep_116 (by decide) (fun c8 => ?_) (fun c8 => ?_)
    · have hf := (if_neg c8).symm.trans hf
      exact w_F_xX0_goStep_126 hA cx _ _ _ _ _ _ _ hf (lv_sub hl [0, 1, 2, 3] rfl) hP hS
    · have hf := (if_pos c8).symm.trans hf
      refine lv_aload_n hx hb dX0_goStep_119 rfl (lv_at hl 0 rfl) ?_
      refine gX_37_5 hx hb hts hown hK hP (v := (σ_r7.1 20)) rfl (hts _ kw_622) dX0_goStep_120 ?_
      refine lv_if_lt (tgt := 139) hx hb dX0_goStep_123 (by decide) (fun c9 => ?_) (fun c9 => ?_)
      · have hf := (if_pos c9).symm.trans hf
        refine lv_iconst (v := 1) hx hb dX0_goStep_139 (by decide) ?_
        refine lv_goto (tgt := 144) hx hb dX0_goStep_140 (by decide) ?_
        exact w_F_xX0_goStep_144 hA cx _ _ _ _ _ _ _ hf (lv_sub hl [0, 2, 3] rfl) hP hS
      · have hf := (if_neg c9).symm.trans hf
        exact w_F_xX0_goStep_126 hA cx _ _ _ _ _ _ _ hf (lv_sub hl [0, 1, 2, 3] rfl) hP hS
  · have hf := (if_pos c6).symm.trans hf
    refine lv_aload_n hx hb dX0_goStep_100 rfl (lv_at hl 0 rfl) ?_
    refine lv_iconst (v := 0) hx hb dX0_goStep_101 (by decide) ?_
    refine pX_37_4 hx hb hts hown hK hP hA hS (hts _ kw_621) dX0_goStep_102 (fun H locs hP hS => ?_)
    have hP : va_P D vwCl (wX A C (sI σ_r5 19 0)) H := hP
    exact cx_vret cx hP hS hf dX0_goStep_105
set_option maxHeartbeats 4000000 in
set_option maxRecDepth 100000 in
theorem w_F_xX0_goStep_24 {p : Program} {l : Launch} {e : Env} {s : State} {m : MethodId} {args : Array Value} {below : List Frame} {meth : Method} {c : Code} {D : va_G} {C : Nat → ClassId} {A adK adV : Nat → Nat} (hA : apA A 60) (cx : Cxx D C adK adV (fxA A 60) p s m args meth c cX0_goStep 7 RX0 none) {res : St} : ∀ (y0 : Int32) (σ : St) (H : Heap) (locs : List Loc) (ls : Array Slot), F_xX0_goStep_24 y0 σ = some res → lv_has ls 7 [(0, .ref (A 37)), (1, .ref (A 10))] → va_P D vwCl (wX A C σ) H → va_S (fxA A 60) s.heap H locs → W p l e rm_X0_goStep s m args below meth c H locs 0 0 (MQ below (Qcx D (wX A C) (fxA A 60) none res) args s 0 0 (fxA A 60)) (F0 m 24 ls [.int y0]) := by
  obtain ⟨hx, hb, hml, hown, hts, hK, hr, hlk, hZ⟩ := id cx
  intro y0 σ H locs ls hf hl hP hS
  refine lv_istore_n (lv' := [(2, .int y0), (0, .ref (A 37)), (1, .ref (A 10))]) hx hb dX0_goStep_24 rfl hl (by decide) rfl (fun ls hl => ?_)
  refine lv_aload_n hx hb dX0_goStep_25 rfl (lv_at hl 2 rfl) ?_
  refine lv_iload_n hx hb dX0_goStep_26 rfl (lv_at hl 0 rfl) ?_
  obtain ⟨⟨r10, σ_r10⟩, h_r10, hf⟩ := bd_some hf
  refine cx_V (As := [.int y0]) (rest := []) cx (ct_xX5_isOrder l D C A adK adV hA h_r10) (cw_X0_57 hts ⟨Nat.le_of_ble_eq_true rfl, Nat.le_of_ble_eq_true rfl⟩) (va_recv hK hP (ci := 5) (q0 := 10) rfl (wX_10 A C _)) hP hS rfl hl.1 rfl (Nat.le_of_ble_eq_true rfl) dX0_goStep_27 ⟨Nat.zero_le _, Nat.zero_le _⟩ (fun H locs hP hS => ?_)
  refine lv_if_ne (tgt := 50) hx hb dX0_goStep_30 (by decide) (fun c11 => ?_) (fun c11 => ?_)
  · have hf := (if_neg c11).symm.trans hf
    refine lv_iload_n hx hb dX0_goStep_50 rfl (lv_at hl 0 rfl) ?_
    obtain ⟨⟨r12, σ_r12⟩, h_r12, hf⟩ := bd_some hf
    refine cx_S (As := [.int y0]) (rest := []) cx (ct_xX5_opOf l D C A adK adV hA h_r12) (cw_X0_64 hts ⟨Nat.le_of_ble_eq_true rfl, Nat.le_of_ble_eq_true rfl⟩) hP hS rfl hl.1 rfl (Nat.le_of_ble_eq_true rfl) dX0_goStep_51 ⟨Nat.zero_le _, Nat.zero_le _⟩ (fun H locs hP hS => ?_)
    refine lv_istore_n (lv' := [(3, .int r12), (2, .int y0), (0, .ref (A 37)), (1, .ref (A 10))]) hx hb dX0_goStep_54 rfl hl (by decide) rfl (fun ls hl => ?_)
    refine lv_iload_n hx hb dX0_goStep_55 rfl (lv_at hl 1 rfl) ?_
    obtain ⟨⟨r13, σ_r13⟩, h_r13, hf⟩ := bd_some hf
    refine cx_S (As := [.int y0]) (rest := []) cx (ct_xX5_wordOf l D C A adK adV hA h_r13) (cw_X0_68 hts ⟨Nat.le_of_ble_eq_true rfl, Nat.le_of_ble_eq_true rfl⟩) hP hS rfl hl.1 rfl (Nat.le_of_ble_eq_true rfl) dX0_goStep_56 ⟨Nat.zero_le _, Nat.zero_le _⟩ (fun H locs hP hS => ?_)
    refine lv_istore (lv' := [(4, .int r13), (3, .int r12), (2, .int y0), (0, .ref (A 37)), (1, .ref (A 10))]) hx hb dX0_goStep_59 hl (by decide) rfl (fun ls hl => ?_)
    refine lv_iload_n hx hb dX0_goStep_61 rfl (lv_at hl 2 rfl) ?_
    obtain ⟨⟨r14, σ_r14⟩, h_r14, hf⟩ := bd_some hf
    refine cx_S (As := [.int y0]) (rest := []) cx (ct_xX5_nextOf l D C A adK adV hA h_r14) (cw_X0_71 hts ⟨Nat.le_of_ble_eq_true rfl, Nat.le_of_ble_eq_true rfl⟩) hP hS rfl hl.1 rfl (Nat.le_of_ble_eq_true rfl) dX0_goStep_62 ⟨Nat.zero_le _, Nat.zero_le _⟩ (fun H locs hP hS => ?_)
    refine lv_istore (lv' := [(5, .int r14), (4, .int r13), (3, .int r12), (2, .int y0), (0, .ref (A 37)), (1, .ref (A 10))]) hx hb dX0_goStep_65 hl (by decide) rfl (fun ls hl => ?_)
    refine lv_aload_n hx hb dX0_goStep_67 rfl (lv_at hl 4 rfl) ?_
    refine lv_aload_n hx hb dX0_goStep_68 rfl (lv_at hl 4 rfl) ?_
    refine gX_37_6 hx hb hts hown hK hP (v := (σ_r14.1 21)) rfl (hts _ kw_624) dX0_goStep_69 ?_
    refine lv_iload_n hx hb dX0_goStep_72 rfl (lv_at hl 2 rfl) ?_
    obtain ⟨⟨r15, σ_r15⟩, h_r15, hf⟩ := bd_some hf
    refine cx_S (As := [.int r12]) (rest := [.int (σ_r14.1 21), .ref (A 37)]) cx (ct_xX5_readsWord l D C A adK adV hA h_r15) (cw_X0_74 hts ⟨Nat.le_of_ble_eq_true rfl, Nat.le_of_ble_eq_true rfl⟩) hP hS rfl hl.1 rfl (Nat.le_of_ble_eq_true rfl) dX0_goStep_73 ⟨Nat.zero_le _, Nat.zero_le _⟩ (fun H locs hP hS => ?_)
    refine lv_if_eq (tgt := 84) hx hb dX0_goStep_76 (by decide) (fun c16 => ?_) (fun c16 => ?_)
    · have hf := (if_pos c16).symm.trans hf
      refine lv_bipush (v := 63) hx hb dX0_goStep_84 (by decide) ?_
      exact w_F_xX0_goStep_86 hA cx _ _ _ _ _ _ _ _ _ hf (lv_sub hl [4, 2, 1, 0] rfl) hP hS
    · have hf := (if_neg c16).symm.trans hf
      refine lv_iload hx hb dX0_goStep_79 (lv_at hl 1 rfl) ?_
      refine lv_goto (tgt := 86) hx hb dX0_goStep_81 (by decide) ?_
      exact w_F_xX0_goStep_86 hA cx _ _ _ _ _ _ _ _ _ hf (lv_sub hl [4, 2, 1, 0] rfl) hP hS
  · have hf := (if_pos c11).symm.trans hf
    refine lv_aload_n hx hb dX0_goStep_33 rfl (lv_at hl 1 rfl) ?_
    refine lv_iconst (v := 1) hx hb dX0_goStep_34 (by decide) ?_
    refine pX_37_4 hx hb hts hown hK hP hA hS (hts _ kw_621) dX0_goStep_35 (fun H locs hP hS => ?_)
    refine lv_aload_n hx hb dX0_goStep_38 rfl (lv_at hl 1 rfl) ?_
    refine lv_aload_n hx hb dX0_goStep_39 rfl (lv_at hl 1 rfl) ?_
    refine gX_37_6 hx hb hts hown hK hP (v := (σ_r10.1 21)) rfl (hts _ kw_624) dX0_goStep_40 ?_
    refine lv_bipush (v := 63) hx hb dX0_goStep_43 (by decide) ?_
    refine lv_iconst (v := 0) hx hb dX0_goStep_45 (by decide) ?_
    have hP : va_P D vwCl (wX A C (sI σ_r10 19 1)) H := hP
    obtain ⟨σ_r17, h_r17, hf⟩ := bv_some hf
    refine cx_V (As := [.int (σ_r10.1 21), .int 63, .int 0]) (rest := []) cx (ct_xX0_note l D C A adK adV hA h_r17) (cw_X0_60 hts ⟨Nat.le_of_ble_eq_true rfl, Nat.le_of_ble_eq_true rfl⟩) (va_recv hK hP (ci := 0) (q0 := 37) rfl (wX_37 A C _)) hP hS rfl hl.1 rfl (Nat.le_of_ble_eq_true rfl) dX0_goStep_46 ⟨Nat.zero_le _, Nat.zero_le _⟩ (fun H locs hP hS => ?_)
    exact cx_vret cx hP hS hf dX0_goStep_49
set_option maxHeartbeats 4000000 in
set_option maxRecDepth 100000 in
theorem ct_xX0_goStep (l : Launch) (D : va_G) (C : Nat → ClassId) (A adK adV : Nat → Nat) (hA : apA A 60)  {σ : St} {res : St} (hf : F_xX0_goStep σ = some res) : Met l yX0_goStep (Cond.code yX0_goStep cX0_goStep 7 none :: wsL_law) rm_X0_goStep (Pcx D C (wX A C) adK adV (fxA A 60) [.ref (A 37), .ref (A 10)] σ) (Qcx D (wX A C) (fxA A 60) none res) 0 0 (fxA A 60) := by
  refine Met.ofW (cc := cX0_goStep) (maxL := 7) (ret := none) (by decide) rfl ?_
  intro p e s m args below meth c s₁ B hml hv
  obtain ⟨rfl, hP, hK, hZ⟩ := hv
  have cx : Cxx D C adK adV (fxA A 60) p s m _ meth c cX0_goStep 7 RX0 none := ⟨B.exec, B.bytes, hml, findClass_of_methodNamed B.named, fun w h => atoms_spec (ws := Cond.code yX0_goStep cX0_goStep 7 none :: wsL_law) B.pre w (List.mem_cons_of_mem _ h), hK, B.returns, B.notSynchronized, hZ⟩
  obtain ⟨hx, hb, -, hown, hts, -, hr, hlk, -⟩ := id cx
  have hS : va_S (fxA A 60) s.heap s.heap [] := va_S.rf
  have hl := lv_entry ([.ref (A 37), .ref (A 10)]) (n := 7) (Nat.le_of_ble_eq_true rfl)
  rw [lg_entry_eq]
  generalize (lg_sl ([.ref (A 37), .ref (A 10)]) ++ List.replicate (7 - (lg_sl ([.ref (A 37), .ref (A 10)])).length) Slot.unset).toArray = ls at hl ⊢
  have hl : lv_has ls 7 [(0, .ref (A 37)), (1, .ref (A 10))] := hl
  show W p l e rm_X0_goStep s m _ below meth c s.heap [] 0 0 _ _
  refine lv_aload_n hx hb dX0_goStep_0 rfl (lv_at hl 1 rfl) ?_
  refine lv_aload_n hx hb dX0_goStep_1 rfl (lv_at hl 0 rfl) ?_
  refine gX_37_6 hx hb hts hown hK hP (v := (σ.1 21)) rfl (hts _ kw_624) dX0_goStep_2 ?_
  obtain ⟨⟨r18, σ_r18⟩, h_r18, hf⟩ := bd_some hf
  refine cx_V (As := [.int (σ.1 21)]) (rest := []) cx (ct_xX5_has l D C A adK adV hA h_r18) (cw_X0_53 hts ⟨Nat.le_of_ble_eq_true rfl, Nat.le_of_ble_eq_true rfl⟩) (va_recv hK hP (ci := 5) (q0 := 10) rfl (wX_10 A C _)) hP hS rfl hl.1 rfl (Nat.le_of_ble_eq_true rfl) dX0_goStep_5 ⟨Nat.zero_le _, Nat.zero_le _⟩ (fun H locs hP hS => ?_)
  refine lv_if_eq (tgt := 23) hx hb dX0_goStep_8 (by decide) (fun c19 => ?_) (fun c19 => ?_)
  · have hf := (if_pos c19).symm.trans hf
    refine lv_iconst (v := (-1)) hx hb dX0_goStep_23 (by decide) ?_
    exact w_F_xX0_goStep_24 hA cx _ _ _ _ _ hf (lv_sub hl [0, 1] rfl) hP hS
  · have hf := (if_neg c19).symm.trans hf
    refine lv_aload_n hx hb dX0_goStep_11 rfl (lv_at hl 0 rfl) ?_
    refine gX_37_1 hx hb hts hown hK hP (hts _ kw_117) dX0_goStep_12 ?_
    refine lv_aload_n hx hb dX0_goStep_15 rfl (lv_at hl 0 rfl) ?_
    refine gX_37_6 hx hb hts hown hK hP (v := (σ_r18.1 21)) rfl (hts _ kw_624) dX0_goStep_16 ?_
    obtain ⟨z20, hf⟩ := gd_some hf
    refine gX_a39 hx hb hK hP (ib_in z20) (v := (σ_r18.2.1 39 (σ_r18.1 21).toNatClampNeg)) rfl dX0_goStep_19 ?_
    refine lv_goto (tgt := 24) hx hb dX0_goStep_20 (by decide) ?_
    exact w_F_xX0_goStep_24 hA cx _ _ _ _ _ hf (lv_sub hl [0, 1] rfl) hP hS
set_option maxHeartbeats 4000000 in
set_option maxRecDepth 100000 in
theorem w_F_xX0_follow_43 {p : Program} {l : Launch} {e : Env} {s : State} {m : MethodId} {args : Array Value} {below : List Frame} {meth : Method} {c : Code} {D : va_G} {C : Nat → ClassId} {A adK adV : Nat → Nat} (hA : apA A 60) (cx : Cxx D C adK adV (fxA A 60) p s m args meth c cX0_follow 2 RX0 none) {res : St} : ∀ (n : Nat), ∀ (σ : St) (H : Heap) (locs : List Loc) (ls : Array Slot), F_xX0_follow_43 n σ = some res → lv_has ls 2 [(0, .ref (A 37)), (1, .ref (A 10))] → va_P D vwCl (wX A C σ) H → va_S (fxA A 60) s.heap H locs → W p l e rm_X0_follow s m args below meth c H locs 0 0 (MQ below (Qcx D (wX A C) (fxA A 60) none res) args s 0 0 (fxA A 60)) (F0 m 43 ls []) := by
  obtain ⟨hx, hb, hml, hown, hts, hK, hr, hlk, hZ⟩ := id cx
  intro n
  induction n with
  | zero =>
    intro σ H locs ls hf hl hP hS
    exact absurd (show (none : Option St) = some res from hf) (by intro h; cases h)
  | succ n ih =>
    intro σ H locs ls hf hl hP hS
    refine lv_aload_n hx hb dX0_follow_43 rfl (lv_at hl 0 rfl) ?_
    refine gX_37_4 hx hb hts hown hK hP (v := (σ.1 19)) rfl (hts _ kw_621) dX0_follow_44 ?_
    refine lv_iconst (v := 2) hx hb dX0_follow_47 (by decide) ?_
    refine lv_icmp_ne (tgt := 79) hx hb dX0_follow_48 (by decide) (fun c1 => ?_) (fun c1 => ?_)
    · have hf := (if_neg c1).symm.trans hf
      exact cx_vret cx hP hS hf dX0_follow_79
    · have hf := (if_pos c1).symm.trans hf
      refine lv_aload_n hx hb dX0_follow_51 rfl (lv_at hl 0 rfl) ?_
      refine gX_37_3 hx hb hts hown hK hP (v := (σ.1 18)) rfl (hts _ kw_620) dX0_follow_52 ?_
      refine lv_sipush (v := 2000) hx hb dX0_follow_55 (by decide) ?_
      refine lv_icmp_ge (tgt := 79) hx hb dX0_follow_58 (by decide) (fun c2 => ?_) (fun c2 => ?_)
      · have hf := (if_pos c2).symm.trans hf
        exact cx_vret cx hP hS hf dX0_follow_79
      · have hf := (if_neg c2).symm.trans hf
        refine lv_aload_n hx hb dX0_follow_61 rfl (lv_at hl 0 rfl) ?_
        refine lv_aload_n hx hb dX0_follow_62 rfl (lv_at hl 1 rfl) ?_
        obtain ⟨σ_r3, h_r3, hf⟩ := bv_some hf
        refine cx_V (As := [.ref (A 10)]) (rest := []) cx (ct_xX0_goStep l D C A adK adV hA h_r3) (cw_X0_49 hts ⟨Nat.le_of_ble_eq_true rfl, Nat.le_of_ble_eq_true rfl⟩) (va_recv hK hP (ci := 0) (q0 := 37) rfl (wX_37 A C _)) hP hS rfl hl.1 rfl (Nat.le_of_ble_eq_true rfl) dX0_follow_63 ⟨Nat.zero_le _, Nat.zero_le _⟩ (fun H locs hP hS => ?_)
        refine lv_aload_n hx hb dX0_follow_66 rfl (lv_at hl 0 rfl) ?_
        refine lv_dup hx hb dX0_follow_67 rfl ?_
        refine gX_37_3 hx hb hts hown hK hP (v := (σ_r3.1 18)) rfl (hts _ kw_620) dX0_follow_68 ?_
        refine lv_iconst (v := 1) hx hb dX0_follow_71 (by decide) ?_
        refine lv_iadd hx hb dX0_follow_72 ?_
        refine pX_37_3 hx hb hts hown hK hP hA hS (hts _ kw_620) dX0_follow_73 (fun H locs hP hS => ?_)
        refine lv_goto (tgt := 43) hx hb dX0_follow_76 (by decide) ?_
        have hP : va_P D vwCl (wX A C (sI σ_r3 18 ((σ_r3.1 18) + 1))) H := hP
        exact ih  _ _ _ _ hf (lv_sub hl [0, 1] rfl) hP hS
set_option maxHeartbeats 4000000 in
set_option maxRecDepth 100000 in
theorem ct_xX0_follow (l : Launch) (D : va_G) (C : Nat → ClassId) (A adK adV : Nat → Nat) (hA : apA A 60)  {σ : St} {res : St} (hf : F_xX0_follow σ = some res) : Met l yX0_follow (Cond.code yX0_follow cX0_follow 2 none :: wsL_law) rm_X0_follow (Pcx D C (wX A C) adK adV (fxA A 60) [.ref (A 37), .ref (A 10)] σ) (Qcx D (wX A C) (fxA A 60) none res) 0 0 (fxA A 60) := by
  refine Met.ofW (cc := cX0_follow) (maxL := 2) (ret := none) (by decide) rfl ?_
  intro p e s m args below meth c s₁ B hml hv
  obtain ⟨rfl, hP, hK, hZ⟩ := hv
  have cx : Cxx D C adK adV (fxA A 60) p s m _ meth c cX0_follow 2 RX0 none := ⟨B.exec, B.bytes, hml, findClass_of_methodNamed B.named, fun w h => atoms_spec (ws := Cond.code yX0_follow cX0_follow 2 none :: wsL_law) B.pre w (List.mem_cons_of_mem _ h), hK, B.returns, B.notSynchronized, hZ⟩
  obtain ⟨hx, hb, -, hown, hts, -, hr, hlk, -⟩ := id cx
  have hS : va_S (fxA A 60) s.heap s.heap [] := va_S.rf
  have hl := lv_entry ([.ref (A 37), .ref (A 10)]) (n := 2) (Nat.le_of_ble_eq_true rfl)
  rw [lg_entry_eq]
  generalize (lg_sl ([.ref (A 37), .ref (A 10)]) ++ List.replicate (2 - (lg_sl ([.ref (A 37), .ref (A 10)])).length) Slot.unset).toArray = ls at hl ⊢
  have hl : lv_has ls 2 [(0, .ref (A 37)), (1, .ref (A 10))] := hl
  show W p l e rm_X0_follow s m _ below meth c s.heap [] 0 0 _ _
  refine lv_aload_n hx hb dX0_follow_0 rfl (lv_at hl 1 rfl) ?_
  refine gX_10_2 hx hb hts hown hK hP (hts _ kw_618) dX0_follow_1 ?_
  refine lv_iconst (v := 0) hx hb dX0_follow_4 (by decide) ?_
  refine lv_aload_n hx hb dX0_follow_5 rfl (lv_at hl 0 rfl) ?_
  refine gX_37_1 hx hb hts hown hK hP (hts _ kw_117) dX0_follow_6 ?_
  refine lv_iconst (v := 0) hx hb dX0_follow_9 (by decide) ?_
  refine lv_bipush (v := 40) hx hb dX0_follow_10 (by decide) ?_
  refine va_copyi hx hb (hml.trans hl.1.symm) hown (hts _ kw_619) (hts _ kw_529) (hts _ kw_530) (hts _ kw_531) hK hP (wX_D hA C _) hS 11 39 1 1 (wX_11 A C _) (wX_39 A C _) rfl rfl rfl (by decide) (by decide) (by decide) (by decide) (by decide) (fun _ _ => rfl) (Nat.le_of_ble_eq_true rfl) (by decide) dX0_follow_12 (fun H locs hP _ hS => ?_)
  have hP : va_P D vwCl (wX A C (sA σ 39 (va_cpy (σ.2.1 11) (σ.2.1 39) 0 0 40))) H := hP
  refine lv_aload_n hx hb dX0_follow_15 rfl (lv_at hl 0 rfl) ?_
  refine lv_iconst (v := 0) hx hb dX0_follow_16 (by decide) ?_
  refine pX_37_3 hx hb hts hown hK hP hA hS (hts _ kw_620) dX0_follow_17 (fun H locs hP hS => ?_)
  refine lv_aload_n hx hb dX0_follow_20 rfl (lv_at hl 0 rfl) ?_
  refine lv_iconst (v := 2) hx hb dX0_follow_21 (by decide) ?_
  refine pX_37_4 hx hb hts hown hK hP hA hS (hts _ kw_621) dX0_follow_22 (fun H locs hP hS => ?_)
  refine lv_aload_n hx hb dX0_follow_25 rfl (lv_at hl 0 rfl) ?_
  refine lv_iconst (v := 0) hx hb dX0_follow_26 (by decide) ?_
  refine pX_37_5 hx hb hts hown hK hP hA hS (hts _ kw_622) dX0_follow_27 (fun H locs hP hS => ?_)
  refine lv_aload_n hx hb dX0_follow_30 rfl (lv_at hl 0 rfl) ?_
  refine lv_aload_n hx hb dX0_follow_31 rfl (lv_at hl 1 rfl) ?_
  refine gX_10_1 hx hb hts hown hK hP (v := (σ.1 12)) rfl (hts _ kw_623) dX0_follow_32 ?_
  refine pX_37_6 hx hb hts hown hK hP hA hS (hts _ kw_624) dX0_follow_35 (fun H locs hP hS => ?_)
  refine lv_aload_n hx hb dX0_follow_38 rfl (lv_at hl 0 rfl) ?_
  refine lv_iconst (v := 0) hx hb dX0_follow_39 (by decide) ?_
  refine pX_37_7 hx hb hts hown hK hP hA hS (hts _ kw_625) dX0_follow_40 (fun H locs hP hS => ?_)
  have hP : va_P D vwCl (wX A C (sA (sI (sI (sI (sI (sI σ 18 0) 19 2) 20 0) 21 (σ.1 12)) 22 0) 39 (va_cpy (σ.2.1 11) (σ.2.1 39) 0 0 40))) H := hP
  exact w_F_xX0_follow_43 hA cx FU _ _ _ _ hf (lv_sub hl [0, 1] rfl) hP hS
set_option maxHeartbeats 4000000 in
set_option maxRecDepth 100000 in
theorem ct_xX10_run (l : Launch) (D : va_G) (C : Nat → ClassId) (A adK adV : Nat → Nat) (hA : apA A 60)  {σ : St} {res : (Int32 × St)} (hf : F_xX10_run σ = some res) : Met l yX10_run (Cond.code yX10_run cX10_run 1 (some .int) :: wsL_law) rm_X10_run (Pcx D C (wX A C) adK adV (fxA A 60) [.ref (A 0)] σ) (Qcx D (wX A C) (fxA A 60) (some (.int res.1)) res.2) 0 0 (fxA A 60) := by
  refine Met.ofW (cc := cX10_run) (maxL := 1) (ret := (some .int)) (by decide) rfl ?_
  intro p e s m args below meth c s₁ B hml hv
  obtain ⟨rfl, hP, hK, hZ⟩ := hv
  have cx : Cxx D C adK adV (fxA A 60) p s m _ meth c cX10_run 1 RX10 (some .int) := ⟨B.exec, B.bytes, hml, findClass_of_methodNamed B.named, fun w h => atoms_spec (ws := Cond.code yX10_run cX10_run 1 (some .int) :: wsL_law) B.pre w (List.mem_cons_of_mem _ h), hK, B.returns, B.notSynchronized, hZ⟩
  obtain ⟨hx, hb, -, hown, hts, -, hr, hlk, -⟩ := id cx
  have hS : va_S (fxA A 60) s.heap s.heap [] := va_S.rf
  have hl := lv_entry ([.ref (A 0)]) (n := 1) (Nat.le_of_ble_eq_true rfl)
  rw [lg_entry_eq]
  generalize (lg_sl ([.ref (A 0)]) ++ List.replicate (1 - (lg_sl ([.ref (A 0)])).length) Slot.unset).toArray = ls at hl ⊢
  have hl : lv_has ls 1 [(0, .ref (A 0))] := hl
  show W p l e rm_X10_run s m _ below meth c s.heap [] 0 0 _ _
  refine lv_aload_n hx hb dX10_run_0 rfl (lv_at hl 0 rfl) ?_
  refine gX_0_3 hx hb hts hown hK hP (hts _ kw_28) dX10_run_1 ?_
  refine gX_10_0 hx hb hts hown hK hP (v := (σ.1 11)) rfl (hts _ kw_220) dX10_run_4 ?_
  refine lv_if_ne (tgt := 13) hx hb dX10_run_7 (by decide) (fun c1 => ?_) (fun c1 => ?_)
  · have hf := (if_neg c1).symm.trans hf
    refine lv_aload_n hx hb dX10_run_13 rfl (lv_at hl 0 rfl) ?_
    refine gX_0_6 hx hb hts hown hK hP (hts _ kw_40) dX10_run_14 ?_
    refine lv_aload_n hx hb dX10_run_17 rfl (lv_at hl 0 rfl) ?_
    refine gX_0_3 hx hb hts hown hK hP (hts _ kw_28) dX10_run_18 ?_
    obtain ⟨σ_r2, h_r2, hf⟩ := bv_some hf
    refine cx_V (As := [.ref (A 10)]) (rest := []) cx (ct_xX0_follow l D C A adK adV hA h_r2) (cw_X10_152 hts ⟨Nat.le_of_ble_eq_true rfl, Nat.le_of_ble_eq_true rfl⟩) (va_recv hK hP (ci := 0) (q0 := 37) rfl (wX_37 A C _)) hP hS rfl hl.1 rfl (Nat.le_of_ble_eq_true rfl) dX10_run_21 ⟨Nat.zero_le _, Nat.zero_le _⟩ (fun H locs hP hS => ?_)
    refine lv_aload_n hx hb dX10_run_24 rfl (lv_at hl 0 rfl) ?_
    refine gX_0_7 hx hb hts hown hK hP (hts _ kw_44) dX10_run_25 ?_
    refine lv_aload_n hx hb dX10_run_28 rfl (lv_at hl 0 rfl) ?_
    refine gX_0_6 hx hb hts hown hK hP (hts _ kw_40) dX10_run_29 ?_
    refine lv_aload_n hx hb dX10_run_32 rfl (lv_at hl 0 rfl) ?_
    refine gX_0_3 hx hb hts hown hK hP (hts _ kw_28) dX10_run_33 ?_
    refine lv_aload_n hx hb dX10_run_36 rfl (lv_at hl 0 rfl) ?_
    refine gX_0_5 hx hb hts hown hK hP (hts _ kw_36) dX10_run_37 ?_
    obtain ⟨σ_r3, h_r3, hf⟩ := bv_some hf
    refine cx_V (As := [.ref (A 37), .ref (A 10), .ref (A 25)]) (rest := []) cx (ct_xX7_write l D C A adK adV hA h_r3) (cw_X10_155 hts ⟨Nat.le_of_ble_eq_true rfl, Nat.le_of_ble_eq_true rfl⟩) (va_recv hK hP (ci := 7) (q0 := 41) rfl (wX_41 A C _)) hP hS rfl hl.1 rfl (Nat.le_of_ble_eq_true rfl) dX10_run_40 ⟨Nat.zero_le _, Nat.zero_le _⟩ (fun H locs hP hS => ?_)
    refine lv_aload_n hx hb dX10_run_43 rfl (lv_at hl 0 rfl) ?_
    refine gX_0_6 hx hb hts hown hK hP (hts _ kw_40) dX10_run_44 ?_
    refine gX_37_3 hx hb hts hown hK hP (v := (σ_r3.1 18)) rfl (hts _ kw_613) dX10_run_47 ?_
    exact cx_iret cx hP hS hf dX10_run_50
  · have hf := (if_pos c1).symm.trans hf
    refine lv_bipush (v := (-4)) hx hb dX10_run_10 (by decide) ?_
    exact cx_iret cx hP hS hf dX10_run_12
set_option maxHeartbeats 4000000 in
set_option maxRecDepth 100000 in
theorem ct_xX7_tellPrinted (l : Launch) (D : va_G) (C : Nat → ClassId) (A adK adV : Nat → Nat) (hA : apA A 60) {x1 : Int32} {σ : St} {res : (Int32 × St)} (hf : F_xX7_tellPrinted x1 σ = some res) : Met l yX7_tellPrinted (Cond.code yX7_tellPrinted cX7_tellPrinted 2 (some .int) :: wsL_law) rm_X7_tellPrinted (Pcx D C (wX A C) adK adV (fxA A 60) [.ref (A 41), .int x1] σ) (Qcx D (wX A C) (fxA A 60) (some (.int res.1)) res.2) 0 0 (fxA A 60) := by
  refine Met.ofW (cc := cX7_tellPrinted) (maxL := 2) (ret := (some .int)) (by decide) rfl ?_
  intro p e s m args below meth c s₁ B hml hv
  obtain ⟨rfl, hP, hK, hZ⟩ := hv
  have cx : Cxx D C adK adV (fxA A 60) p s m _ meth c cX7_tellPrinted 2 RX7 (some .int) := ⟨B.exec, B.bytes, hml, findClass_of_methodNamed B.named, fun w h => atoms_spec (ws := Cond.code yX7_tellPrinted cX7_tellPrinted 2 (some .int) :: wsL_law) B.pre w (List.mem_cons_of_mem _ h), hK, B.returns, B.notSynchronized, hZ⟩
  obtain ⟨hx, hb, -, hown, hts, -, hr, hlk, -⟩ := id cx
  have hS : va_S (fxA A 60) s.heap s.heap [] := va_S.rf
  have hl := lv_entry ([.ref (A 41), .int x1]) (n := 2) (Nat.le_of_ble_eq_true rfl)
  rw [lg_entry_eq]
  generalize (lg_sl ([.ref (A 41), .int x1]) ++ List.replicate (2 - (lg_sl ([.ref (A 41), .int x1])).length) Slot.unset).toArray = ls at hl ⊢
  have hl : lv_has ls 2 [(0, .ref (A 41)), (1, .int x1)] := hl
  show W p l e rm_X7_tellPrinted s m _ below meth c s.heap [] 0 0 _ _
  refine lv_iload_n hx hb dX7_tellPrinted_0 rfl (lv_at hl 1 rfl) ?_
  refine lv_bipush (v := 100) hx hb dX7_tellPrinted_1 (by decide) ?_
  refine lv_icmp_lt (tgt := 24) hx hb dX7_tellPrinted_3 (by decide) (fun c1 => ?_) (fun c1 => ?_)
  · have hf := (if_pos c1).symm.trans hf
    refine lv_ldc (v := (-2147483647)) hx hb hown (hts _ kw_782) dX7_tellPrinted_24 ?_
    exact cx_iret cx hP hS hf dX7_tellPrinted_26
  · have hf := (if_neg c1).symm.trans hf
    refine lv_iload_n hx hb dX7_tellPrinted_6 rfl (lv_at hl 1 rfl) ?_
    refine lv_sipush (v := 200) hx hb dX7_tellPrinted_7 (by decide) ?_
    refine lv_icmp_ge (tgt := 24) hx hb dX7_tellPrinted_10 (by decide) (fun c2 => ?_) (fun c2 => ?_)
    · have hf := (if_pos c2).symm.trans hf
      refine lv_ldc (v := (-2147483647)) hx hb hown (hts _ kw_782) dX7_tellPrinted_24 ?_
      exact cx_iret cx hP hS hf dX7_tellPrinted_26
    · have hf := (if_neg c2).symm.trans hf
      refine lv_iload_n hx hb dX7_tellPrinted_13 rfl (lv_at hl 1 rfl) ?_
      refine lv_bipush (v := 100) hx hb dX7_tellPrinted_14 (by decide) ?_
      refine lv_isub hx hb dX7_tellPrinted_16 ?_
      refine lv_aload_n hx hb dX7_tellPrinted_17 rfl (lv_at hl 0 rfl) ?_
      refine gX_41_4 hx hb hts hown hK hP (v := (σ.1 27)) rfl (hts _ kw_685) dX7_tellPrinted_18 ?_
      refine lv_icmp_lt (tgt := 27) hx hb dX7_tellPrinted_21 (by decide) (fun c3 => ?_) (fun c3 => ?_)
      · have hf := (if_pos c3).symm.trans hf
        refine lv_aload_n hx hb dX7_tellPrinted_27 rfl (lv_at hl 0 rfl) ?_
        refine gX_41_8 hx hb hts hown hK hP (hts _ kw_122) dX7_tellPrinted_28 ?_
        refine lv_iload_n hx hb dX7_tellPrinted_31 rfl (lv_at hl 1 rfl) ?_
        refine lv_bipush (v := 100) hx hb dX7_tellPrinted_32 (by decide) ?_
        refine lv_isub hx hb dX7_tellPrinted_34 ?_
        obtain ⟨z4, hf⟩ := gd_some hf
        refine gX_a42 hx hb hK hP (ib_in z4) (v := (σ.2.1 42 (x1 - 100).toNatClampNeg)) rfl dX7_tellPrinted_35 ?_
        exact cx_iret cx hP hS hf dX7_tellPrinted_36
      · have hf := (if_neg c3).symm.trans hf
        refine lv_ldc (v := (-2147483647)) hx hb hown (hts _ kw_782) dX7_tellPrinted_24 ?_
        exact cx_iret cx hP hS hf dX7_tellPrinted_26
set_option maxHeartbeats 4000000 in
set_option maxRecDepth 100000 in
theorem ct_xX7_tellRun (l : Launch) (D : va_G) (C : Nat → ClassId) (A adK adV : Nat → Nat) (hA : apA A 60) {x1 : Int32} {σ : St} {res : (Int32 × St)} (hf : F_xX7_tellRun x1 σ = some res) : Met l yX7_tellRun (Cond.code yX7_tellRun cX7_tellRun 2 (some .int) :: wsL_law) rm_X7_tellRun (Pcx D C (wX A C) adK adV (fxA A 60) [.ref (A 41), .int x1] σ) (Qcx D (wX A C) (fxA A 60) (some (.int res.1)) res.2) 0 0 (fxA A 60) := by
  refine Met.ofW (cc := cX7_tellRun) (maxL := 2) (ret := (some .int)) (by decide) rfl ?_
  intro p e s m args below meth c s₁ B hml hv
  obtain ⟨rfl, hP, hK, hZ⟩ := hv
  have cx : Cxx D C adK adV (fxA A 60) p s m _ meth c cX7_tellRun 2 RX7 (some .int) := ⟨B.exec, B.bytes, hml, findClass_of_methodNamed B.named, fun w h => atoms_spec (ws := Cond.code yX7_tellRun cX7_tellRun 2 (some .int) :: wsL_law) B.pre w (List.mem_cons_of_mem _ h), hK, B.returns, B.notSynchronized, hZ⟩
  obtain ⟨hx, hb, -, hown, hts, -, hr, hlk, -⟩ := id cx
  have hS : va_S (fxA A 60) s.heap s.heap [] := va_S.rf
  have hl := lv_entry ([.ref (A 41), .int x1]) (n := 2) (Nat.le_of_ble_eq_true rfl)
  rw [lg_entry_eq]
  generalize (lg_sl ([.ref (A 41), .int x1]) ++ List.replicate (2 - (lg_sl ([.ref (A 41), .int x1])).length) Slot.unset).toArray = ls at hl ⊢
  have hl : lv_has ls 2 [(0, .ref (A 41)), (1, .int x1)] := hl
  show W p l e rm_X7_tellRun s m _ below meth c s.heap [] 0 0 _ _
  refine lv_aload_n hx hb dX7_tellRun_0 rfl (lv_at hl 0 rfl) ?_
  refine gX_41_0 hx hb hts hown hK hP (v := (σ.1 23)) rfl (hts _ kw_408) dX7_tellRun_1 ?_
  refine lv_if_ne (tgt := 10) hx hb dX7_tellRun_4 (by decide) (fun c1 => ?_) (fun c1 => ?_)
  · have hf := (if_neg c1).symm.trans hf
    refine lv_iload_n hx hb dX7_tellRun_10 rfl (lv_at hl 1 rfl) ?_
    by_cases c2 : x1 = 0
    · have hf := (if_pos c2).symm.trans hf
      refine lv_tableIn (tgt := 48) hx hb dX7_tellRun_11 (by rw [c2]; decide) (by rw [c2]; decide) (by rw [c2]; rfl) (by decide) ?_
      refine lv_aload_n hx hb dX7_tellRun_48 rfl (lv_at hl 0 rfl) ?_
      refine gX_41_1 hx hb hts hown hK hP (v := (σ.1 24)) rfl (hts _ kw_679) dX7_tellRun_49 ?_
      exact cx_iret cx hP hS hf dX7_tellRun_52
    have hf := (if_neg c2).symm.trans hf
    by_cases c3 : x1 = 1
    · have hf := (if_pos c3).symm.trans hf
      refine lv_tableIn (tgt := 53) hx hb dX7_tellRun_11 (by rw [c3]; decide) (by rw [c3]; decide) (by rw [c3]; rfl) (by decide) ?_
      refine lv_aload_n hx hb dX7_tellRun_53 rfl (lv_at hl 0 rfl) ?_
      refine gX_41_2 hx hb hts hown hK hP (v := (σ.1 25)) rfl (hts _ kw_681) dX7_tellRun_54 ?_
      exact cx_iret cx hP hS hf dX7_tellRun_57
    have hf := (if_neg c3).symm.trans hf
    by_cases c4 : x1 = 2
    · have hf := (if_pos c4).symm.trans hf
      refine lv_tableIn (tgt := 58) hx hb dX7_tellRun_11 (by rw [c4]; decide) (by rw [c4]; decide) (by rw [c4]; rfl) (by decide) ?_
      refine lv_aload_n hx hb dX7_tellRun_58 rfl (lv_at hl 0 rfl) ?_
      refine gX_41_3 hx hb hts hown hK hP (v := (σ.1 26)) rfl (hts _ kw_683) dX7_tellRun_59 ?_
      exact cx_iret cx hP hS hf dX7_tellRun_62
    have hf := (if_neg c4).symm.trans hf
    by_cases c5 : x1 = 3
    · have hf := (if_pos c5).symm.trans hf
      refine lv_tableIn (tgt := 63) hx hb dX7_tellRun_11 (by rw [c5]; decide) (by rw [c5]; decide) (by rw [c5]; rfl) (by decide) ?_
      refine lv_aload_n hx hb dX7_tellRun_63 rfl (lv_at hl 0 rfl) ?_
      refine gX_41_4 hx hb hts hown hK hP (v := (σ.1 27)) rfl (hts _ kw_685) dX7_tellRun_64 ?_
      exact cx_iret cx hP hS hf dX7_tellRun_67
    have hf := (if_neg c5).symm.trans hf
    by_cases c6 : x1 = 4
    · have hf := (if_pos c6).symm.trans hf
      refine lv_tableIn (tgt := 68) hx hb dX7_tellRun_11 (by rw [c6]; decide) (by rw [c6]; decide) (by rw [c6]; rfl) (by decide) ?_
      refine lv_aload_n hx hb dX7_tellRun_68 rfl (lv_at hl 0 rfl) ?_
      refine gX_41_5 hx hb hts hown hK hP (v := (σ.1 28)) rfl (hts _ kw_695) dX7_tellRun_69 ?_
      exact cx_iret cx hP hS hf dX7_tellRun_72
    have hf := (if_neg c6).symm.trans hf
    by_cases c7 : x1 = 5
    · have hf := (if_pos c7).symm.trans hf
      refine lv_tableIn (tgt := 73) hx hb dX7_tellRun_11 (by rw [c7]; decide) (by rw [c7]; decide) (by rw [c7]; rfl) (by decide) ?_
      refine lv_aload_n hx hb dX7_tellRun_73 rfl (lv_at hl 0 rfl) ?_
      refine gX_41_6 hx hb hts hown hK hP (v := (σ.1 29)) rfl (hts _ kw_696) dX7_tellRun_74 ?_
      exact cx_iret cx hP hS hf dX7_tellRun_77
    have hf := (if_neg c7).symm.trans hf
    refine lv_tableOut (tgt := 78) hx hb dX7_tellRun_11 (sw6_0 c2 c3 c4 c5 c6 c7) (by decide) ?_
    refine lv_aload_n hx hb dX7_tellRun_78 rfl (lv_at hl 0 rfl) ?_
    refine lv_iload_n hx hb dX7_tellRun_79 rfl (lv_at hl 1 rfl) ?_
    obtain ⟨⟨r8, σ_r8⟩, h_r8, hf⟩ := bd_some hf
    refine cx_V (As := [.int x1]) (rest := []) cx (ct_xX7_tellPrinted l D C A adK adV hA h_r8) (cw_X7_137 hts ⟨Nat.le_of_ble_eq_true rfl, Nat.le_of_ble_eq_true rfl⟩) (va_recv hK hP (ci := 7) (q0 := 41) rfl (wX_41 A C _)) hP hS rfl hl.1 rfl (Nat.le_of_ble_eq_true rfl) dX7_tellRun_80 ⟨Nat.zero_le _, Nat.zero_le _⟩ (fun H locs hP hS => ?_)
    exact cx_iret cx hP hS hf dX7_tellRun_83
  · have hf := (if_pos c1).symm.trans hf
    refine lv_ldc (v := (-2147483647)) hx hb hown (hts _ kw_782) dX7_tellRun_7 ?_
    exact cx_iret cx hP hS hf dX7_tellRun_9
set_option maxHeartbeats 4000000 in
set_option maxRecDepth 100000 in
theorem ct_xX10_ran (l : Launch) (D : va_G) (C : Nat → ClassId) (A adK adV : Nat → Nat) (hA : apA A 60) {x1 : Int32} {σ : St} {res : (Int32 × St)} (hf : F_xX10_ran x1 σ = some res) : Met l yX10_ran (Cond.code yX10_ran cX10_ran 2 (some .int) :: wsL_law) rm_X10_ran (Pcx D C (wX A C) adK adV (fxA A 60) [.ref (A 0), .int x1] σ) (Qcx D (wX A C) (fxA A 60) (some (.int res.1)) res.2) 0 0 (fxA A 60) := by
  refine Met.ofW (cc := cX10_ran) (maxL := 2) (ret := (some .int)) (by decide) rfl ?_
  intro p e s m args below meth c s₁ B hml hv
  obtain ⟨rfl, hP, hK, hZ⟩ := hv
  have cx : Cxx D C adK adV (fxA A 60) p s m _ meth c cX10_ran 2 RX10 (some .int) := ⟨B.exec, B.bytes, hml, findClass_of_methodNamed B.named, fun w h => atoms_spec (ws := Cond.code yX10_ran cX10_ran 2 (some .int) :: wsL_law) B.pre w (List.mem_cons_of_mem _ h), hK, B.returns, B.notSynchronized, hZ⟩
  obtain ⟨hx, hb, -, hown, hts, -, hr, hlk, -⟩ := id cx
  have hS : va_S (fxA A 60) s.heap s.heap [] := va_S.rf
  have hl := lv_entry ([.ref (A 0), .int x1]) (n := 2) (Nat.le_of_ble_eq_true rfl)
  rw [lg_entry_eq]
  generalize (lg_sl ([.ref (A 0), .int x1]) ++ List.replicate (2 - (lg_sl ([.ref (A 0), .int x1])).length) Slot.unset).toArray = ls at hl ⊢
  have hl : lv_has ls 2 [(0, .ref (A 0)), (1, .int x1)] := hl
  show W p l e rm_X10_ran s m _ below meth c s.heap [] 0 0 _ _
  refine lv_aload_n hx hb dX10_ran_0 rfl (lv_at hl 0 rfl) ?_
  refine gX_0_7 hx hb hts hown hK hP (hts _ kw_44) dX10_ran_1 ?_
  refine lv_iload_n hx hb dX10_ran_4 rfl (lv_at hl 1 rfl) ?_
  obtain ⟨⟨r1, σ_r1⟩, h_r1, hf⟩ := bd_some hf
  refine cx_V (As := [.int x1]) (rest := []) cx (ct_xX7_tellRun l D C A adK adV hA h_r1) (cw_X10_162 hts ⟨Nat.le_of_ble_eq_true rfl, Nat.le_of_ble_eq_true rfl⟩) (va_recv hK hP (ci := 7) (q0 := 41) rfl (wX_41 A C _)) hP hS rfl hl.1 rfl (Nat.le_of_ble_eq_true rfl) dX10_ran_5 ⟨Nat.zero_le _, Nat.zero_le _⟩ (fun H locs hP hS => ?_)
  exact cx_iret cx hP hS hf dX10_ran_8
set_option maxHeartbeats 4000000 in
set_option maxRecDepth 100000 in
theorem ct_xX7_tellName (l : Launch) (D : va_G) (C : Nat → ClassId) (A adK adV : Nat → Nat) (hA : apA A 60) {x1 : Int32} {x2 : Int32} {σ : St} {res : (Int32 × St)} (hf : F_xX7_tellName x1 x2 σ = some res) : Met l yX7_tellName (Cond.code yX7_tellName cX7_tellName 3 (some .int) :: wsL_law) rm_X7_tellName (Pcx D C (wX A C) adK adV (fxA A 60) [.ref (A 41), .int x1, .int x2] σ) (Qcx D (wX A C) (fxA A 60) (some (.int res.1)) res.2) 0 0 (fxA A 60) := by
  refine Met.ofW (cc := cX7_tellName) (maxL := 3) (ret := (some .int)) (by decide) rfl ?_
  intro p e s m args below meth c s₁ B hml hv
  obtain ⟨rfl, hP, hK, hZ⟩ := hv
  have cx : Cxx D C adK adV (fxA A 60) p s m _ meth c cX7_tellName 3 RX7 (some .int) := ⟨B.exec, B.bytes, hml, findClass_of_methodNamed B.named, fun w h => atoms_spec (ws := Cond.code yX7_tellName cX7_tellName 3 (some .int) :: wsL_law) B.pre w (List.mem_cons_of_mem _ h), hK, B.returns, B.notSynchronized, hZ⟩
  obtain ⟨hx, hb, -, hown, hts, -, hr, hlk, -⟩ := id cx
  have hS : va_S (fxA A 60) s.heap s.heap [] := va_S.rf
  have hl := lv_entry ([.ref (A 41), .int x1, .int x2]) (n := 3) (Nat.le_of_ble_eq_true rfl)
  rw [lg_entry_eq]
  generalize (lg_sl ([.ref (A 41), .int x1, .int x2]) ++ List.replicate (3 - (lg_sl ([.ref (A 41), .int x1, .int x2])).length) Slot.unset).toArray = ls at hl ⊢
  have hl : lv_has ls 3 [(0, .ref (A 41)), (1, .int x1), (2, .int x2)] := hl
  show W p l e rm_X7_tellName s m _ below meth c s.heap [] 0 0 _ _
  refine lv_aload_n hx hb dX7_tellName_0 rfl (lv_at hl 0 rfl) ?_
  refine gX_41_0 hx hb hts hown hK hP (v := (σ.1 23)) rfl (hts _ kw_408) dX7_tellName_1 ?_
  refine lv_if_eq (tgt := 17) hx hb dX7_tellName_4 (by decide) (fun c1 => ?_) (fun c1 => ?_)
  · have hf := (if_pos c1).symm.trans hf
    refine lv_ldc (v := (-2147483647)) hx hb hown (hts _ kw_782) dX7_tellName_17 ?_
    exact cx_iret cx hP hS hf dX7_tellName_19
  · have hf := (if_neg c1).symm.trans hf
    refine lv_iload_n hx hb dX7_tellName_7 rfl (lv_at hl 1 rfl) ?_
    refine lv_if_lt (tgt := 17) hx hb dX7_tellName_8 (by decide) (fun c2 => ?_) (fun c2 => ?_)
    · have hf := (if_pos c2).symm.trans hf
      refine lv_ldc (v := (-2147483647)) hx hb hown (hts _ kw_782) dX7_tellName_17 ?_
      exact cx_iret cx hP hS hf dX7_tellName_19
    · have hf := (if_neg c2).symm.trans hf
      refine lv_iload_n hx hb dX7_tellName_11 rfl (lv_at hl 1 rfl) ?_
      refine lv_bipush (v := 40) hx hb dX7_tellName_12 (by decide) ?_
      refine lv_icmp_lt (tgt := 20) hx hb dX7_tellName_14 (by decide) (fun c3 => ?_) (fun c3 => ?_)
      · have hf := (if_pos c3).symm.trans hf
        refine lv_iload_n hx hb dX7_tellName_20 rfl (lv_at hl 2 rfl) ?_
        by_cases c4 : x2 = 0
        · have hf := (if_pos c4).symm.trans hf
          refine lv_tableIn (tgt := 68) hx hb dX7_tellName_21 (by rw [c4]; decide) (by rw [c4]; decide) (by rw [c4]; rfl) (by decide) ?_
          refine lv_aload_n hx hb dX7_tellName_68 rfl (lv_at hl 0 rfl) ?_
          refine gX_41_9 hx hb hts hown hK hP (hts _ kw_123) dX7_tellName_69 ?_
          refine lv_iload_n hx hb dX7_tellName_72 rfl (lv_at hl 1 rfl) ?_
          obtain ⟨z5, hf⟩ := gd_some hf
          refine gX_a43 hx hb hK hP (ib_in z5) (v := (σ.2.1 43 x1.toNatClampNeg)) rfl dX7_tellName_73 ?_
          exact cx_iret cx hP hS hf dX7_tellName_74
        have hf := (if_neg c4).symm.trans hf
        by_cases c6 : x2 = 1
        · have hf := (if_pos c6).symm.trans hf
          refine lv_tableIn (tgt := 75) hx hb dX7_tellName_21 (by rw [c6]; decide) (by rw [c6]; decide) (by rw [c6]; rfl) (by decide) ?_
          refine lv_aload_n hx hb dX7_tellName_75 rfl (lv_at hl 0 rfl) ?_
          refine gX_41_10 hx hb hts hown hK hP (hts _ kw_124) dX7_tellName_76 ?_
          refine lv_iload_n hx hb dX7_tellName_79 rfl (lv_at hl 1 rfl) ?_
          obtain ⟨z7, hf⟩ := gd_some hf
          refine gX_a44 hx hb hK hP (ib_in z7) (v := (σ.2.1 44 x1.toNatClampNeg)) rfl dX7_tellName_80 ?_
          exact cx_iret cx hP hS hf dX7_tellName_81
        have hf := (if_neg c6).symm.trans hf
        by_cases c8 : x2 = 2
        · have hf := (if_pos c8).symm.trans hf
          refine lv_tableIn (tgt := 82) hx hb dX7_tellName_21 (by rw [c8]; decide) (by rw [c8]; decide) (by rw [c8]; rfl) (by decide) ?_
          refine lv_aload_n hx hb dX7_tellName_82 rfl (lv_at hl 0 rfl) ?_
          refine gX_41_11 hx hb hts hown hK hP (hts _ kw_125) dX7_tellName_83 ?_
          refine lv_iload_n hx hb dX7_tellName_86 rfl (lv_at hl 1 rfl) ?_
          obtain ⟨z9, hf⟩ := gd_some hf
          refine gX_a45 hx hb hK hP (ib_in z9) (v := (σ.2.1 45 x1.toNatClampNeg)) rfl dX7_tellName_87 ?_
          exact cx_iret cx hP hS hf dX7_tellName_88
        have hf := (if_neg c8).symm.trans hf
        by_cases c10 : x2 = 3
        · have hf := (if_pos c10).symm.trans hf
          refine lv_tableIn (tgt := 89) hx hb dX7_tellName_21 (by rw [c10]; decide) (by rw [c10]; decide) (by rw [c10]; rfl) (by decide) ?_
          refine lv_aload_n hx hb dX7_tellName_89 rfl (lv_at hl 0 rfl) ?_
          refine gX_41_12 hx hb hts hown hK hP (hts _ kw_126) dX7_tellName_90 ?_
          refine lv_iload_n hx hb dX7_tellName_93 rfl (lv_at hl 1 rfl) ?_
          obtain ⟨z11, hf⟩ := gd_some hf
          refine gX_a46 hx hb hK hP (ib_in z11) (v := (σ.2.1 46 x1.toNatClampNeg)) rfl dX7_tellName_94 ?_
          exact cx_iret cx hP hS hf dX7_tellName_95
        have hf := (if_neg c10).symm.trans hf
        by_cases c12 : x2 = 4
        · have hf := (if_pos c12).symm.trans hf
          refine lv_tableIn (tgt := 96) hx hb dX7_tellName_21 (by rw [c12]; decide) (by rw [c12]; decide) (by rw [c12]; rfl) (by decide) ?_
          refine lv_aload_n hx hb dX7_tellName_96 rfl (lv_at hl 0 rfl) ?_
          refine gX_41_14 hx hb hts hown hK hP (hts _ kw_128) dX7_tellName_97 ?_
          refine lv_iload_n hx hb dX7_tellName_100 rfl (lv_at hl 1 rfl) ?_
          obtain ⟨z13, hf⟩ := gd_some hf
          refine gX_a48 hx hb hK hP (ib_in z13) (v := (σ.2.1 48 x1.toNatClampNeg)) rfl dX7_tellName_101 ?_
          exact cx_iret cx hP hS hf dX7_tellName_102
        have hf := (if_neg c12).symm.trans hf
        by_cases c14 : x2 = 5
        · have hf := (if_pos c14).symm.trans hf
          refine lv_tableIn (tgt := 103) hx hb dX7_tellName_21 (by rw [c14]; decide) (by rw [c14]; decide) (by rw [c14]; rfl) (by decide) ?_
          refine lv_aload_n hx hb dX7_tellName_103 rfl (lv_at hl 0 rfl) ?_
          refine gX_41_15 hx hb hts hown hK hP (hts _ kw_129) dX7_tellName_104 ?_
          refine lv_iload_n hx hb dX7_tellName_107 rfl (lv_at hl 1 rfl) ?_
          obtain ⟨z15, hf⟩ := gd_some hf
          refine gX_a49 hx hb hK hP (ib_in z15) (v := (σ.2.1 49 x1.toNatClampNeg)) rfl dX7_tellName_108 ?_
          exact cx_iret cx hP hS hf dX7_tellName_109
        have hf := (if_neg c14).symm.trans hf
        by_cases c16 : x2 = 6
        · have hf := (if_pos c16).symm.trans hf
          refine lv_tableIn (tgt := 110) hx hb dX7_tellName_21 (by rw [c16]; decide) (by rw [c16]; decide) (by rw [c16]; rfl) (by decide) ?_
          refine lv_aload_n hx hb dX7_tellName_110 rfl (lv_at hl 0 rfl) ?_
          refine gX_41_13 hx hb hts hown hK hP (hts _ kw_127) dX7_tellName_111 ?_
          refine lv_iload_n hx hb dX7_tellName_114 rfl (lv_at hl 1 rfl) ?_
          obtain ⟨z17, hf⟩ := gd_some hf
          refine gX_a47 hx hb hK hP (ib_in z17) (v := (σ.2.1 47 x1.toNatClampNeg)) rfl dX7_tellName_115 ?_
          exact cx_iret cx hP hS hf dX7_tellName_116
        have hf := (if_neg c16).symm.trans hf
        by_cases c18 : x2 = 7
        · have hf := (if_pos c18).symm.trans hf
          refine lv_tableIn (tgt := 117) hx hb dX7_tellName_21 (by rw [c18]; decide) (by rw [c18]; decide) (by rw [c18]; rfl) (by decide) ?_
          refine lv_aload_n hx hb dX7_tellName_117 rfl (lv_at hl 0 rfl) ?_
          refine gX_41_16 hx hb hts hown hK hP (hts _ kw_130) dX7_tellName_118 ?_
          refine lv_iload_n hx hb dX7_tellName_121 rfl (lv_at hl 1 rfl) ?_
          obtain ⟨z19, hf⟩ := gd_some hf
          refine gX_a50 hx hb hK hP (ib_in z19) (v := (σ.2.1 50 x1.toNatClampNeg)) rfl dX7_tellName_122 ?_
          exact cx_iret cx hP hS hf dX7_tellName_123
        have hf := (if_neg c18).symm.trans hf
        refine lv_tableOut (tgt := 124) hx hb dX7_tellName_21 (sw8_0 c4 c6 c8 c10 c12 c14 c16 c18) (by decide) ?_
        refine lv_ldc (v := (-2147483647)) hx hb hown (hts _ kw_782) dX7_tellName_124 ?_
        exact cx_iret cx hP hS hf dX7_tellName_126
      · have hf := (if_neg c3).symm.trans hf
        refine lv_ldc (v := (-2147483647)) hx hb hown (hts _ kw_782) dX7_tellName_17 ?_
        exact cx_iret cx hP hS hf dX7_tellName_19
set_option maxHeartbeats 4000000 in
set_option maxRecDepth 100000 in
theorem ct_xX10_of (l : Launch) (D : va_G) (C : Nat → ClassId) (A adK adV : Nat → Nat) (hA : apA A 60) {x1 : Int32} {x2 : Int32} {σ : St} {res : (Int32 × St)} (hf : F_xX10_of x1 x2 σ = some res) : Met l yX10_of (Cond.code yX10_of cX10_of 3 (some .int) :: wsL_law) rm_X10_of (Pcx D C (wX A C) adK adV (fxA A 60) [.ref (A 0), .int x1, .int x2] σ) (Qcx D (wX A C) (fxA A 60) (some (.int res.1)) res.2) 0 0 (fxA A 60) := by
  refine Met.ofW (cc := cX10_of) (maxL := 3) (ret := (some .int)) (by decide) rfl ?_
  intro p e s m args below meth c s₁ B hml hv
  obtain ⟨rfl, hP, hK, hZ⟩ := hv
  have cx : Cxx D C adK adV (fxA A 60) p s m _ meth c cX10_of 3 RX10 (some .int) := ⟨B.exec, B.bytes, hml, findClass_of_methodNamed B.named, fun w h => atoms_spec (ws := Cond.code yX10_of cX10_of 3 (some .int) :: wsL_law) B.pre w (List.mem_cons_of_mem _ h), hK, B.returns, B.notSynchronized, hZ⟩
  obtain ⟨hx, hb, -, hown, hts, -, hr, hlk, -⟩ := id cx
  have hS : va_S (fxA A 60) s.heap s.heap [] := va_S.rf
  have hl := lv_entry ([.ref (A 0), .int x1, .int x2]) (n := 3) (Nat.le_of_ble_eq_true rfl)
  rw [lg_entry_eq]
  generalize (lg_sl ([.ref (A 0), .int x1, .int x2]) ++ List.replicate (3 - (lg_sl ([.ref (A 0), .int x1, .int x2])).length) Slot.unset).toArray = ls at hl ⊢
  have hl : lv_has ls 3 [(0, .ref (A 0)), (1, .int x1), (2, .int x2)] := hl
  show W p l e rm_X10_of s m _ below meth c s.heap [] 0 0 _ _
  refine lv_aload_n hx hb dX10_of_0 rfl (lv_at hl 0 rfl) ?_
  refine gX_0_3 hx hb hts hown hK hP (hts _ kw_28) dX10_of_1 ?_
  refine lv_iload_n hx hb dX10_of_4 rfl (lv_at hl 1 rfl) ?_
  obtain ⟨⟨r1, σ_r1⟩, h_r1, hf⟩ := bd_some hf
  refine cx_V (As := [.int x1]) (rest := []) cx (ct_xX5_has l D C A adK adV hA h_r1) (cw_X10_145 hts ⟨Nat.le_of_ble_eq_true rfl, Nat.le_of_ble_eq_true rfl⟩) (va_recv hK hP (ci := 5) (q0 := 10) rfl (wX_10 A C _)) hP hS rfl hl.1 rfl (Nat.le_of_ble_eq_true rfl) dX10_of_5 ⟨Nat.zero_le _, Nat.zero_le _⟩ (fun H locs hP hS => ?_)
  refine lv_if_eq (tgt := 23) hx hb dX10_of_8 (by decide) (fun c2 => ?_) (fun c2 => ?_)
  · have hf := (if_pos c2).symm.trans hf
    refine lv_ldc (v := (-2147483647)) hx hb hown (hts _ kw_579) dX10_of_23 ?_
    exact cx_iret cx hP hS hf dX10_of_25
  · have hf := (if_neg c2).symm.trans hf
    refine lv_aload_n hx hb dX10_of_11 rfl (lv_at hl 0 rfl) ?_
    refine gX_0_7 hx hb hts hown hK hP (hts _ kw_44) dX10_of_12 ?_
    refine lv_iload_n hx hb dX10_of_15 rfl (lv_at hl 1 rfl) ?_
    refine lv_iload_n hx hb dX10_of_16 rfl (lv_at hl 2 rfl) ?_
    obtain ⟨⟨r3, σ_r3⟩, h_r3, hf⟩ := bd_some hf
    refine cx_V (As := [.int x1, .int x2]) (rest := []) cx (ct_xX7_tellName l D C A adK adV hA h_r3) (cw_X10_166 hts ⟨Nat.le_of_ble_eq_true rfl, Nat.le_of_ble_eq_true rfl⟩) (va_recv hK hP (ci := 7) (q0 := 41) rfl (wX_41 A C _)) hP hS rfl hl.1 rfl (Nat.le_of_ble_eq_true rfl) dX10_of_17 ⟨Nat.zero_le _, Nat.zero_le _⟩ (fun H locs hP hS => ?_)
    refine lv_goto (tgt := 25) hx hb dX10_of_20 (by decide) ?_
    exact cx_iret cx hP hS hf dX10_of_25
set_option maxHeartbeats 4000000 in
set_option maxRecDepth 100000 in
theorem ct_xX10_needed (l : Launch) (D : va_G) (C : Nat → ClassId) (A adK adV : Nat → Nat) (hA : apA A 60)  {σ : St} {res : (Int32 × St)} (hf : F_xX10_needed σ = some res) : Met l yX10_needed (Cond.code yX10_needed cX10_needed 1 (some .int) :: wsL_law) rm_X10_needed (Pcx D C (wX A C) adK adV (fxA A 60) [.ref (A 0)] σ) (Qcx D (wX A C) (fxA A 60) (some (.int res.1)) res.2) 0 0 (fxA A 60) := by
  refine Met.ofW (cc := cX10_needed) (maxL := 1) (ret := (some .int)) (by decide) rfl ?_
  intro p e s m args below meth c s₁ B hml hv
  obtain ⟨rfl, hP, hK, hZ⟩ := hv
  have cx : Cxx D C adK adV (fxA A 60) p s m _ meth c cX10_needed 1 RX10 (some .int) := ⟨B.exec, B.bytes, hml, findClass_of_methodNamed B.named, fun w h => atoms_spec (ws := Cond.code yX10_needed cX10_needed 1 (some .int) :: wsL_law) B.pre w (List.mem_cons_of_mem _ h), hK, B.returns, B.notSynchronized, hZ⟩
  obtain ⟨hx, hb, -, hown, hts, -, hr, hlk, -⟩ := id cx
  have hS : va_S (fxA A 60) s.heap s.heap [] := va_S.rf
  have hl := lv_entry ([.ref (A 0)]) (n := 1) (Nat.le_of_ble_eq_true rfl)
  rw [lg_entry_eq]
  generalize (lg_sl ([.ref (A 0)]) ++ List.replicate (1 - (lg_sl ([.ref (A 0)])).length) Slot.unset).toArray = ls at hl ⊢
  have hl : lv_has ls 1 [(0, .ref (A 0))] := hl
  show W p l e rm_X10_needed s m _ below meth c s.heap [] 0 0 _ _
  refine lv_aload_n hx hb dX10_needed_0 rfl (lv_at hl 0 rfl) ?_
  refine gX_0_7 hx hb hts hown hK hP (hts _ kw_44) dX10_needed_1 ?_
  refine gX_41_7 hx hb hts hown hK hP (v := (σ.1 30)) rfl (hts _ kw_807) dX10_needed_4 ?_
  exact cx_iret cx hP hS hf dX10_needed_7
set_option maxHeartbeats 4000000 in
set_option maxRecDepth 100000 in
theorem ct_xX10_spot (l : Launch) (D : va_G) (C : Nat → ClassId) (A adK adV : Nat → Nat) (hA : apA A 60) {x1 : Int32} {σ : St} {res : (Int32 × St)} (hf : F_xX10_spot x1 σ = some res) : Met l yX10_spot (Cond.code yX10_spot cX10_spot 2 (some .int) :: wsL_law) rm_X10_spot (Pcx D C (wX A C) adK adV (fxA A 60) [.ref (A 0), .int x1] σ) (Qcx D (wX A C) (fxA A 60) (some (.int res.1)) res.2) 0 0 (fxA A 60) := by
  refine Met.ofW (cc := cX10_spot) (maxL := 2) (ret := (some .int)) (by decide) rfl ?_
  intro p e s m args below meth c s₁ B hml hv
  obtain ⟨rfl, hP, hK, hZ⟩ := hv
  have cx : Cxx D C adK adV (fxA A 60) p s m _ meth c cX10_spot 2 RX10 (some .int) := ⟨B.exec, B.bytes, hml, findClass_of_methodNamed B.named, fun w h => atoms_spec (ws := Cond.code yX10_spot cX10_spot 2 (some .int) :: wsL_law) B.pre w (List.mem_cons_of_mem _ h), hK, B.returns, B.notSynchronized, hZ⟩
  obtain ⟨hx, hb, -, hown, hts, -, hr, hlk, -⟩ := id cx
  have hS : va_S (fxA A 60) s.heap s.heap [] := va_S.rf
  have hl := lv_entry ([.ref (A 0), .int x1]) (n := 2) (Nat.le_of_ble_eq_true rfl)
  rw [lg_entry_eq]
  generalize (lg_sl ([.ref (A 0), .int x1]) ++ List.replicate (2 - (lg_sl ([.ref (A 0), .int x1])).length) Slot.unset).toArray = ls at hl ⊢
  have hl : lv_has ls 2 [(0, .ref (A 0)), (1, .int x1)] := hl
  show W p l e rm_X10_spot s m _ below meth c s.heap [] 0 0 _ _
  refine lv_aload_n hx hb dX10_spot_0 rfl (lv_at hl 0 rfl) ?_
  refine gX_0_3 hx hb hts hown hK hP (hts _ kw_28) dX10_spot_1 ?_
  refine lv_iload_n hx hb dX10_spot_4 rfl (lv_at hl 1 rfl) ?_
  obtain ⟨⟨r1, σ_r1⟩, h_r1, hf⟩ := bd_some hf
  refine cx_V (As := [.int x1]) (rest := []) cx (ct_xX5_has l D C A adK adV hA h_r1) (cw_X10_145 hts ⟨Nat.le_of_ble_eq_true rfl, Nat.le_of_ble_eq_true rfl⟩) (va_recv hK hP (ci := 5) (q0 := 10) rfl (wX_10 A C _)) hP hS rfl hl.1 rfl (Nat.le_of_ble_eq_true rfl) dX10_spot_5 ⟨Nat.zero_le _, Nat.zero_le _⟩ (fun H locs hP hS => ?_)
  refine lv_if_eq (tgt := 23) hx hb dX10_spot_8 (by decide) (fun c2 => ?_) (fun c2 => ?_)
  · have hf := (if_pos c2).symm.trans hf
    refine lv_bipush (v := (-2)) hx hb dX10_spot_23 (by decide) ?_
    exact cx_iret cx hP hS hf dX10_spot_25
  · have hf := (if_neg c2).symm.trans hf
    refine lv_aload_n hx hb dX10_spot_11 rfl (lv_at hl 0 rfl) ?_
    refine gX_0_5 hx hb hts hown hK hP (hts _ kw_36) dX10_spot_12 ?_
    refine gX_25_2 hx hb hts hown hK hP (hts _ kw_816) dX10_spot_15 ?_
    refine lv_iload_n hx hb dX10_spot_18 rfl (lv_at hl 1 rfl) ?_
    obtain ⟨z3, hf⟩ := gd_some hf
    refine gX_a26 hx hb hK hP (ib_in z3) (v := (σ_r1.2.1 26 x1.toNatClampNeg)) rfl dX10_spot_19 ?_
    refine lv_goto (tgt := 25) hx hb dX10_spot_20 (by decide) ?_
    exact cx_iret cx hP hS hf dX10_spot_25
set_option maxHeartbeats 4000000 in
set_option maxRecDepth 100000 in
theorem w_F_xX10_lay_60 {p : Program} {l : Launch} {e : Env} {s : State} {m : MethodId} {args : Array Value} {below : List Frame} {meth : Method} {c : Code} {D : va_G} {C : Nat → ClassId} {A adK adV : Nat → Nat} (hA : apA A 60) (cx : Cxx D C adK adV (fxA A 60) p s m args meth c cX10_lay 5 RX10 (some .int)) {res : (Int32 × St)} : ∀ (x1 : Int32) (x2 : Int32) (σ : St) (H : Heap) (locs : List Loc) (ls : Array Slot), F_xX10_lay_60 x1 x2 σ = some res → lv_has ls 5 [(0, .ref (A 0)), (1, .int x1), (2, .int x2)] → va_P D vwCl (wX A C σ) H → va_S (fxA A 60) s.heap H locs → W p l e rm_X10_lay s m args below meth c H locs 0 0 (MQ below (Qcx D (wX A C) (fxA A 60) (some (.int res.1)) res.2) args s 0 0 (fxA A 60)) (F0 m 60 ls []) := by
  obtain ⟨hx, hb, hml, hown, hts, hK, hr, hlk, hZ⟩ := id cx
  intro x1 x2 σ H locs ls hf hl hP hS
  refine lv_aload_n hx hb dX10_lay_60 rfl (lv_at hl 0 rfl) ?_
  refine gX_0_5 hx hb hts hown hK hP (hts _ kw_36) dX10_lay_61 ?_
  refine gX_25_2 hx hb hts hown hK hP (hts _ kw_816) dX10_lay_64 ?_
  refine lv_iload_n hx hb dX10_lay_67 rfl (lv_at hl 1 rfl) ?_
  obtain ⟨z1, hf⟩ := gd_some hf
  refine gX_a26 hx hb hK hP (ib_in z1) (v := (σ.2.1 26 x1.toNatClampNeg)) rfl dX10_lay_68 ?_
  refine lv_istore (lv' := [(4, .int (σ.2.1 26 x1.toNatClampNeg)), (0, .ref (A 0)), (1, .int x1), (2, .int x2)]) hx hb dX10_lay_69 hl (by decide) rfl (fun ls hl => ?_)
  refine lv_aload_n hx hb dX10_lay_71 rfl (lv_at hl 1 rfl) ?_
  refine gX_0_5 hx hb hts hown hK hP (hts _ kw_36) dX10_lay_72 ?_
  refine lv_iload_n hx hb dX10_lay_75 rfl (lv_at hl 2 rfl) ?_
  refine lv_iload_n hx hb dX10_lay_76 rfl (lv_at hl 3 rfl) ?_
  obtain ⟨σ_r2, h_r2, hf⟩ := bv_some hf
  refine cx_V (As := [.int x1, .int x2]) (rest := []) cx (ct_xX3_move l D C A adK adV hA h_r2) (cw_X10_186 hts ⟨Nat.le_of_ble_eq_true rfl, Nat.le_of_ble_eq_true rfl⟩) (va_recv hK hP (ci := 3) (q0 := 25) rfl (wX_25 A C _)) hP hS rfl hl.1 rfl (Nat.le_of_ble_eq_true rfl) dX10_lay_77 ⟨Nat.zero_le _, Nat.zero_le _⟩ (fun H locs hP hS => ?_)
  refine lv_iload hx hb dX10_lay_80 (lv_at hl 0 rfl) ?_
  exact cx_iret cx hP hS hf dX10_lay_82
set_option maxHeartbeats 4000000 in
set_option maxRecDepth 100000 in
theorem ct_xX10_lay (l : Launch) (D : va_G) (C : Nat → ClassId) (A adK adV : Nat → Nat) (hA : apA A 60) {x1 : Int32} {x2 : Int32} {σ : St} {res : (Int32 × St)} (hf : F_xX10_lay x1 x2 σ = some res) : Met l yX10_lay (Cond.code yX10_lay cX10_lay 5 (some .int) :: wsL_law) rm_X10_lay (Pcx D C (wX A C) adK adV (fxA A 60) [.ref (A 0), .int x1, .int x2] σ) (Qcx D (wX A C) (fxA A 60) (some (.int res.1)) res.2) 0 0 (fxA A 60) := by
  refine Met.ofW (cc := cX10_lay) (maxL := 5) (ret := (some .int)) (by decide) rfl ?_
  intro p e s m args below meth c s₁ B hml hv
  obtain ⟨rfl, hP, hK, hZ⟩ := hv
  have cx : Cxx D C adK adV (fxA A 60) p s m _ meth c cX10_lay 5 RX10 (some .int) := ⟨B.exec, B.bytes, hml, findClass_of_methodNamed B.named, fun w h => atoms_spec (ws := Cond.code yX10_lay cX10_lay 5 (some .int) :: wsL_law) B.pre w (List.mem_cons_of_mem _ h), hK, B.returns, B.notSynchronized, hZ⟩
  obtain ⟨hx, hb, -, hown, hts, -, hr, hlk, -⟩ := id cx
  have hS : va_S (fxA A 60) s.heap s.heap [] := va_S.rf
  have hl := lv_entry ([.ref (A 0), .int x1, .int x2]) (n := 5) (Nat.le_of_ble_eq_true rfl)
  rw [lg_entry_eq]
  generalize (lg_sl ([.ref (A 0), .int x1, .int x2]) ++ List.replicate (5 - (lg_sl ([.ref (A 0), .int x1, .int x2])).length) Slot.unset).toArray = ls at hl ⊢
  have hl : lv_has ls 5 [(0, .ref (A 0)), (1, .int x1), (2, .int x2)] := hl
  show W p l e rm_X10_lay s m _ below meth c s.heap [] 0 0 _ _
  refine lv_aload_n hx hb dX10_lay_0 rfl (lv_at hl 0 rfl) ?_
  refine gX_0_3 hx hb hts hown hK hP (hts _ kw_28) dX10_lay_1 ?_
  refine lv_iload_n hx hb dX10_lay_4 rfl (lv_at hl 1 rfl) ?_
  obtain ⟨⟨r3, σ_r3⟩, h_r3, hf⟩ := bd_some hf
  refine cx_V (As := [.int x1]) (rest := []) cx (ct_xX5_has l D C A adK adV hA h_r3) (cw_X10_145 hts ⟨Nat.le_of_ble_eq_true rfl, Nat.le_of_ble_eq_true rfl⟩) (va_recv hK hP (ci := 5) (q0 := 10) rfl (wX_10 A C _)) hP hS rfl hl.1 rfl (Nat.le_of_ble_eq_true rfl) dX10_lay_5 ⟨Nat.zero_le _, Nat.zero_le _⟩ (fun H locs hP hS => ?_)
  refine lv_if_eq (tgt := 22) hx hb dX10_lay_8 (by decide) (fun c4 => ?_) (fun c4 => ?_)
  · have hf := (if_pos c4).symm.trans hf
    refine lv_bipush (v := (-2)) hx hb dX10_lay_22 (by decide) ?_
    exact cx_iret cx hP hS hf dX10_lay_24
  · have hf := (if_neg c4).symm.trans hf
    refine lv_aload_n hx hb dX10_lay_11 rfl (lv_at hl 0 rfl) ?_
    refine gX_0_1 hx hb hts hown hK hP (hts _ kw_20) dX10_lay_12 ?_
    refine lv_iload_n hx hb dX10_lay_15 rfl (lv_at hl 2 rfl) ?_
    obtain ⟨⟨r5, σ_r5⟩, h_r5, hf⟩ := bd_some hf
    refine cx_V (As := [.int x2]) (rest := []) cx (ct_xX1_hasSpot l D C A adK adV hA h_r5) (cw_X10_176 hts ⟨Nat.le_of_ble_eq_true rfl, Nat.le_of_ble_eq_true rfl⟩) (va_recv hK hP (ci := 1) (q0 := 3) rfl (wX_3 A C _)) hP hS rfl hl.1 rfl (Nat.le_of_ble_eq_true rfl) dX10_lay_16 ⟨Nat.zero_le _, Nat.zero_le _⟩ (fun H locs hP hS => ?_)
    refine lv_if_ne (tgt := 25) hx hb dX10_lay_19 (by decide) (fun c6 => ?_) (fun c6 => ?_)
    · have hf := (if_neg c6).symm.trans hf
      refine lv_aload_n hx hb dX10_lay_25 rfl (lv_at hl 0 rfl) ?_
      refine gX_0_5 hx hb hts hown hK hP (hts _ kw_36) dX10_lay_26 ?_
      refine gX_25_5 hx hb hts hown hK hP (hts _ kw_825) dX10_lay_29 ?_
      refine lv_iload_n hx hb dX10_lay_32 rfl (lv_at hl 2 rfl) ?_
      obtain ⟨z7, hf⟩ := gd_some hf
      refine gX_a29 hx hb hK hP (ib_in z7) (v := (σ_r5.2.1 29 x2.toNatClampNeg)) rfl dX10_lay_33 ?_
      refine lv_istore_n (lv' := [(3, .int (σ_r5.2.1 29 x2.toNatClampNeg)), (0, .ref (A 0)), (1, .int x1), (2, .int x2)]) hx hb dX10_lay_34 rfl hl (by decide) rfl (fun ls hl => ?_)
      refine lv_aload_n hx hb dX10_lay_35 rfl (lv_at hl 1 rfl) ?_
      refine gX_0_5 hx hb hts hown hK hP (hts _ kw_36) dX10_lay_36 ?_
      refine gX_25_6 hx hb hts hown hK hP (hts _ kw_826) dX10_lay_39 ?_
      refine lv_iload_n hx hb dX10_lay_42 rfl (lv_at hl 3 rfl) ?_
      refine gX_a30 hx hb hK hP (ib_in z7) (v := (σ_r5.2.1 30 x2.toNatClampNeg)) rfl dX10_lay_43 ?_
      refine lv_if_ne (tgt := 57) hx hb dX10_lay_44 (by decide) (fun c8 => ?_) (fun c8 => ?_)
      · have hf := (if_neg c8).symm.trans hf
        refine lv_bipush (v := (-4)) hx hb dX10_lay_57 (by decide) ?_
        exact cx_iret cx hP hS hf dX10_lay_59
      · have hf := (if_pos c8).symm.trans hf
        refine lv_iload_n hx hb dX10_lay_47 rfl (lv_at hl 0 rfl) ?_
        refine lv_iconst (v := (-1)) hx hb dX10_lay_48 (by decide) ?_
        refine lv_icmp_eq (tgt := 60) hx hb dX10_lay_49 (by decide) (fun c9 => ?_) (fun c9 => ?_)
        · have hf := (if_pos c9).symm.trans hf
          exact w_F_xX10_lay_60 hA cx _ _ _ _ _ _ hf (lv_sub hl [1, 2, 3] rfl) hP hS
        · have hf := (if_neg c9).symm.trans hf
          refine lv_iload_n hx hb dX10_lay_52 rfl (lv_at hl 0 rfl) ?_
          refine lv_iload_n hx hb dX10_lay_53 rfl (lv_at hl 2 rfl) ?_
          refine lv_icmp_eq (tgt := 60) hx hb dX10_lay_54 (by decide) (fun c10 => ?_) (fun c10 => ?_)
          · have hf := (if_pos c10).symm.trans hf
            exact w_F_xX10_lay_60 hA cx _ _ _ _ _ _ hf (lv_sub hl [1, 2, 3] rfl) hP hS
          · have hf := (if_neg c10).symm.trans hf
            refine lv_bipush (v := (-4)) hx hb dX10_lay_57 (by decide) ?_
            exact cx_iret cx hP hS hf dX10_lay_59
    · have hf := (if_pos c6).symm.trans hf
      refine lv_bipush (v := (-2)) hx hb dX10_lay_22 (by decide) ?_
      exact cx_iret cx hP hS hf dX10_lay_24
set_option maxHeartbeats 4000000 in
set_option maxRecDepth 100000 in
theorem ct_xX10_spoil (l : Launch) (D : va_G) (C : Nat → ClassId) (A adK adV : Nat → Nat) (hA : apA A 60) {x1 : Int32} {σ : St} {res : (Int32 × St)} (hf : F_xX10_spoil x1 σ = some res) : Met l yX10_spoil (Cond.code yX10_spoil cX10_spoil 2 (some .int) :: wsL_law) rm_X10_spoil (Pcx D C (wX A C) adK adV (fxA A 60) [.ref (A 0), .int x1] σ) (Qcx D (wX A C) (fxA A 60) (some (.int res.1)) res.2) 0 0 (fxA A 60) := by
  refine Met.ofW (cc := cX10_spoil) (maxL := 2) (ret := (some .int)) (by decide) rfl ?_
  intro p e s m args below meth c s₁ B hml hv
  obtain ⟨rfl, hP, hK, hZ⟩ := hv
  have cx : Cxx D C adK adV (fxA A 60) p s m _ meth c cX10_spoil 2 RX10 (some .int) := ⟨B.exec, B.bytes, hml, findClass_of_methodNamed B.named, fun w h => atoms_spec (ws := Cond.code yX10_spoil cX10_spoil 2 (some .int) :: wsL_law) B.pre w (List.mem_cons_of_mem _ h), hK, B.returns, B.notSynchronized, hZ⟩
  obtain ⟨hx, hb, -, hown, hts, -, hr, hlk, -⟩ := id cx
  have hS : va_S (fxA A 60) s.heap s.heap [] := va_S.rf
  have hl := lv_entry ([.ref (A 0), .int x1]) (n := 2) (Nat.le_of_ble_eq_true rfl)
  rw [lg_entry_eq]
  generalize (lg_sl ([.ref (A 0), .int x1]) ++ List.replicate (2 - (lg_sl ([.ref (A 0), .int x1])).length) Slot.unset).toArray = ls at hl ⊢
  have hl : lv_has ls 2 [(0, .ref (A 0)), (1, .int x1)] := hl
  show W p l e rm_X10_spoil s m _ below meth c s.heap [] 0 0 _ _
  refine lv_aload_n hx hb dX10_spoil_0 rfl (lv_at hl 0 rfl) ?_
  refine gX_0_1 hx hb hts hown hK hP (hts _ kw_20) dX10_spoil_1 ?_
  refine lv_iload_n hx hb dX10_spoil_4 rfl (lv_at hl 1 rfl) ?_
  obtain ⟨⟨r1, σ_r1⟩, h_r1, hf⟩ := bd_some hf
  refine cx_V (As := [.int x1]) (rest := []) cx (ct_xX1_hasSpot l D C A adK adV hA h_r1) (cw_X10_176 hts ⟨Nat.le_of_ble_eq_true rfl, Nat.le_of_ble_eq_true rfl⟩) (va_recv hK hP (ci := 1) (q0 := 3) rfl (wX_3 A C _)) hP hS rfl hl.1 rfl (Nat.le_of_ble_eq_true rfl) dX10_spoil_5 ⟨Nat.zero_le _, Nat.zero_le _⟩ (fun H locs hP hS => ?_)
  refine lv_if_ne (tgt := 14) hx hb dX10_spoil_8 (by decide) (fun c2 => ?_) (fun c2 => ?_)
  · have hf := (if_neg c2).symm.trans hf
    refine lv_aload_n hx hb dX10_spoil_14 rfl (lv_at hl 0 rfl) ?_
    refine gX_0_5 hx hb hts hown hK hP (hts _ kw_36) dX10_spoil_15 ?_
    refine gX_25_6 hx hb hts hown hK hP (hts _ kw_826) dX10_spoil_18 ?_
    refine lv_iload_n hx hb dX10_spoil_21 rfl (lv_at hl 1 rfl) ?_
    obtain ⟨z3, hf⟩ := gd_some hf
    refine gX_a30 hx hb hK hP (ib_in z3) (v := (σ_r1.2.1 30 x1.toNatClampNeg)) rfl dX10_spoil_22 ?_
    refine lv_if_eq (tgt := 29) hx hb dX10_spoil_23 (by decide) (fun c4 => ?_) (fun c4 => ?_)
    · have hf := (if_pos c4).symm.trans hf
      refine lv_aload_n hx hb dX10_spoil_29 rfl (lv_at hl 0 rfl) ?_
      refine gX_0_5 hx hb hts hown hK hP (hts _ kw_36) dX10_spoil_30 ?_
      refine gX_25_6 hx hb hts hown hK hP (hts _ kw_826) dX10_spoil_33 ?_
      refine lv_iload_n hx hb dX10_spoil_36 rfl (lv_at hl 1 rfl) ?_
      refine lv_iconst (v := 1) hx hb dX10_spoil_37 (by decide) ?_
      refine pX_a30 hx hb hK hP hA hS (ib_in z3) dX10_spoil_38 (fun H locs hP hS => ?_)
      refine lv_aload_n hx hb dX10_spoil_39 rfl (lv_at hl 0 rfl) ?_
      refine gX_0_5 hx hb hts hown hK hP (hts _ kw_36) dX10_spoil_40 ?_
      refine gX_25_5 hx hb hts hown hK hP (hts _ kw_825) dX10_spoil_43 ?_
      refine lv_iload_n hx hb dX10_spoil_46 rfl (lv_at hl 1 rfl) ?_
      refine gX_a29 hx hb hK hP (ib_in z3) (v := (σ_r1.2.1 29 x1.toNatClampNeg)) rfl dX10_spoil_47 ?_
      have hP : va_P D vwCl (wX A C (sA σ_r1 30 (upd (σ_r1.2.1 30) x1.toNatClampNeg (vp_nar .boolean 1)))) H := hP
      exact cx_iret cx hP hS hf dX10_spoil_48
    · have hf := (if_neg c4).symm.trans hf
      refine lv_bipush (v := (-4)) hx hb dX10_spoil_26 (by decide) ?_
      exact cx_iret cx hP hS hf dX10_spoil_28
  · have hf := (if_pos c2).symm.trans hf
    refine lv_bipush (v := (-2)) hx hb dX10_spoil_11 (by decide) ?_
    exact cx_iret cx hP hS hf dX10_spoil_13
set_option maxHeartbeats 4000000 in
set_option maxRecDepth 100000 in
theorem ct_xX10_time (l : Launch) (D : va_G) (C : Nat → ClassId) (A adK adV : Nat → Nat) (hA : apA A 60)  {σ : St} {res : (Int32 × St)} (hf : F_xX10_time σ = some res) : Met l yX10_time (Cond.code yX10_time cX10_time 1 (some .int) :: wsL_law) rm_X10_time (Pcx D C (wX A C) adK adV (fxA A 60) [.ref (A 0)] σ) (Qcx D (wX A C) (fxA A 60) (some (.int res.1)) res.2) 0 0 (fxA A 60) := by
  refine Met.ofW (cc := cX10_time) (maxL := 1) (ret := (some .int)) (by decide) rfl ?_
  intro p e s m args below meth c s₁ B hml hv
  obtain ⟨rfl, hP, hK, hZ⟩ := hv
  have cx : Cxx D C adK adV (fxA A 60) p s m _ meth c cX10_time 1 RX10 (some .int) := ⟨B.exec, B.bytes, hml, findClass_of_methodNamed B.named, fun w h => atoms_spec (ws := Cond.code yX10_time cX10_time 1 (some .int) :: wsL_law) B.pre w (List.mem_cons_of_mem _ h), hK, B.returns, B.notSynchronized, hZ⟩
  obtain ⟨hx, hb, -, hown, hts, -, hr, hlk, -⟩ := id cx
  have hS : va_S (fxA A 60) s.heap s.heap [] := va_S.rf
  have hl := lv_entry ([.ref (A 0)]) (n := 1) (Nat.le_of_ble_eq_true rfl)
  rw [lg_entry_eq]
  generalize (lg_sl ([.ref (A 0)]) ++ List.replicate (1 - (lg_sl ([.ref (A 0)])).length) Slot.unset).toArray = ls at hl ⊢
  have hl : lv_has ls 1 [(0, .ref (A 0))] := hl
  show W p l e rm_X10_time s m _ below meth c s.heap [] 0 0 _ _
  refine lv_aload_n hx hb dX10_time_0 rfl (lv_at hl 0 rfl) ?_
  refine gX_0_3 hx hb hts hown hK hP (hts _ kw_28) dX10_time_1 ?_
  refine gX_10_0 hx hb hts hown hK hP (v := (σ.1 11)) rfl (hts _ kw_220) dX10_time_4 ?_
  refine lv_if_ne (tgt := 13) hx hb dX10_time_7 (by decide) (fun c1 => ?_) (fun c1 => ?_)
  · have hf := (if_neg c1).symm.trans hf
    refine lv_aload_n hx hb dX10_time_13 rfl (lv_at hl 0 rfl) ?_
    refine gX_0_6 hx hb hts hown hK hP (hts _ kw_40) dX10_time_14 ?_
    refine lv_aload_n hx hb dX10_time_17 rfl (lv_at hl 0 rfl) ?_
    refine gX_0_3 hx hb hts hown hK hP (hts _ kw_28) dX10_time_18 ?_
    obtain ⟨σ_r2, h_r2, hf⟩ := bv_some hf
    refine cx_V (As := [.ref (A 10)]) (rest := []) cx (ct_xX0_follow l D C A adK adV hA h_r2) (cw_X10_152 hts ⟨Nat.le_of_ble_eq_true rfl, Nat.le_of_ble_eq_true rfl⟩) (va_recv hK hP (ci := 0) (q0 := 37) rfl (wX_37 A C _)) hP hS rfl hl.1 rfl (Nat.le_of_ble_eq_true rfl) dX10_time_21 ⟨Nat.zero_le _, Nat.zero_le _⟩ (fun H locs hP hS => ?_)
    refine lv_aload_n hx hb dX10_time_24 rfl (lv_at hl 0 rfl) ?_
    refine gX_0_5 hx hb hts hown hK hP (hts _ kw_36) dX10_time_25 ?_
    refine lv_aload_n hx hb dX10_time_28 rfl (lv_at hl 0 rfl) ?_
    refine gX_0_6 hx hb hts hown hK hP (hts _ kw_40) dX10_time_29 ?_
    obtain ⟨⟨r3, σ_r3⟩, h_r3, hf⟩ := bd_some hf
    refine cx_V (As := [.ref (A 37)]) (rest := []) cx (ct_xX3_timeOf l D C A adK adV hA h_r3) (cw_X10_190 hts ⟨Nat.le_of_ble_eq_true rfl, Nat.le_of_ble_eq_true rfl⟩) (va_recv hK hP (ci := 3) (q0 := 25) rfl (wX_25 A C _)) hP hS rfl hl.1 rfl (Nat.le_of_ble_eq_true rfl) dX10_time_32 ⟨Nat.zero_le _, Nat.zero_le _⟩ (fun H locs hP hS => ?_)
    exact cx_iret cx hP hS hf dX10_time_35
  · have hf := (if_pos c1).symm.trans hf
    refine lv_bipush (v := (-4)) hx hb dX10_time_10 (by decide) ?_
    exact cx_iret cx hP hS hf dX10_time_12
set_option maxHeartbeats 4000000 in
set_option maxRecDepth 100000 in
theorem ct_xX10_place (l : Launch) (D : va_G) (C : Nat → ClassId) (A adK adV : Nat → Nat) (hA : apA A 60) {x1 : Int32} {σ : St} {res : (Int32 × St)} (hf : F_xX10_place x1 σ = some res) : Met l yX10_place (Cond.code yX10_place cX10_place 2 (some .int) :: wsL_law) rm_X10_place (Pcx D C (wX A C) adK adV (fxA A 60) [.ref (A 0), .int x1] σ) (Qcx D (wX A C) (fxA A 60) (some (.int res.1)) res.2) 0 0 (fxA A 60) := by
  refine Met.ofW (cc := cX10_place) (maxL := 2) (ret := (some .int)) (by decide) rfl ?_
  intro p e s m args below meth c s₁ B hml hv
  obtain ⟨rfl, hP, hK, hZ⟩ := hv
  have cx : Cxx D C adK adV (fxA A 60) p s m _ meth c cX10_place 2 RX10 (some .int) := ⟨B.exec, B.bytes, hml, findClass_of_methodNamed B.named, fun w h => atoms_spec (ws := Cond.code yX10_place cX10_place 2 (some .int) :: wsL_law) B.pre w (List.mem_cons_of_mem _ h), hK, B.returns, B.notSynchronized, hZ⟩
  obtain ⟨hx, hb, -, hown, hts, -, hr, hlk, -⟩ := id cx
  have hS : va_S (fxA A 60) s.heap s.heap [] := va_S.rf
  have hl := lv_entry ([.ref (A 0), .int x1]) (n := 2) (Nat.le_of_ble_eq_true rfl)
  rw [lg_entry_eq]
  generalize (lg_sl ([.ref (A 0), .int x1]) ++ List.replicate (2 - (lg_sl ([.ref (A 0), .int x1])).length) Slot.unset).toArray = ls at hl ⊢
  have hl : lv_has ls 2 [(0, .ref (A 0)), (1, .int x1)] := hl
  show W p l e rm_X10_place s m _ below meth c s.heap [] 0 0 _ _
  refine lv_aload_n hx hb dX10_place_0 rfl (lv_at hl 0 rfl) ?_
  refine gX_0_3 hx hb hts hown hK hP (hts _ kw_28) dX10_place_1 ?_
  refine lv_iload_n hx hb dX10_place_4 rfl (lv_at hl 1 rfl) ?_
  obtain ⟨⟨r1, σ_r1⟩, h_r1, hf⟩ := bd_some hf
  refine cx_V (As := [.int x1]) (rest := []) cx (ct_xX5_has l D C A adK adV hA h_r1) (cw_X10_145 hts ⟨Nat.le_of_ble_eq_true rfl, Nat.le_of_ble_eq_true rfl⟩) (va_recv hK hP (ci := 5) (q0 := 10) rfl (wX_10 A C _)) hP hS rfl hl.1 rfl (Nat.le_of_ble_eq_true rfl) dX10_place_5 ⟨Nat.zero_le _, Nat.zero_le _⟩ (fun H locs hP hS => ?_)
  refine lv_if_ne (tgt := 14) hx hb dX10_place_8 (by decide) (fun c2 => ?_) (fun c2 => ?_)
  · have hf := (if_neg c2).symm.trans hf
    refine lv_aload_n hx hb dX10_place_14 rfl (lv_at hl 0 rfl) ?_
    refine gX_0_6 hx hb hts hown hK hP (hts _ kw_40) dX10_place_15 ?_
    refine lv_aload_n hx hb dX10_place_18 rfl (lv_at hl 0 rfl) ?_
    refine gX_0_3 hx hb hts hown hK hP (hts _ kw_28) dX10_place_19 ?_
    obtain ⟨σ_r3, h_r3, hf⟩ := bv_some hf
    refine cx_V (As := [.ref (A 10)]) (rest := []) cx (ct_xX0_follow l D C A adK adV hA h_r3) (cw_X10_152 hts ⟨Nat.le_of_ble_eq_true rfl, Nat.le_of_ble_eq_true rfl⟩) (va_recv hK hP (ci := 0) (q0 := 37) rfl (wX_37 A C _)) hP hS rfl hl.1 rfl (Nat.le_of_ble_eq_true rfl) dX10_place_22 ⟨Nat.zero_le _, Nat.zero_le _⟩ (fun H locs hP hS => ?_)
    refine lv_aload_n hx hb dX10_place_25 rfl (lv_at hl 0 rfl) ?_
    refine gX_0_8 hx hb hts hown hK hP (hts _ kw_48) dX10_place_26 ?_
    refine lv_iload_n hx hb dX10_place_29 rfl (lv_at hl 1 rfl) ?_
    obtain ⟨⟨r4, σ_r4⟩, h_r4, hf⟩ := bd_some hf
    refine cx_V (As := [.int x1]) (rest := []) cx (ct_xX8_findPlace l D C A adK adV hA h_r4) (cw_X10_194 hts ⟨Nat.le_of_ble_eq_true rfl, Nat.le_of_ble_eq_true rfl⟩) (va_recv hK hP (ci := 8) (q0 := 52) rfl (wX_52 A C _)) hP hS rfl hl.1 rfl (Nat.le_of_ble_eq_true rfl) dX10_place_30 ⟨Nat.zero_le _, Nat.zero_le _⟩ (fun H locs hP hS => ?_)
    exact cx_iret cx hP hS hf dX10_place_33
  · have hf := (if_pos c2).symm.trans hf
    refine lv_bipush (v := (-2)) hx hb dX10_place_11 (by decide) ?_
    exact cx_iret cx hP hS hf dX10_place_13
set_option maxHeartbeats 4000000 in
set_option maxRecDepth 100000 in
theorem ct_xX10_mend (l : Launch) (D : va_G) (C : Nat → ClassId) (A adK adV : Nat → Nat) (hA : apA A 60)  {σ : St} {res : (Int32 × St)} (hf : F_xX10_mend σ = some res) : Met l yX10_mend (Cond.code yX10_mend cX10_mend 1 (some .int) :: wsL_law) rm_X10_mend (Pcx D C (wX A C) adK adV (fxA A 60) [.ref (A 0)] σ) (Qcx D (wX A C) (fxA A 60) (some (.int res.1)) res.2) 0 0 (fxA A 60) := by
  refine Met.ofW (cc := cX10_mend) (maxL := 1) (ret := (some .int)) (by decide) rfl ?_
  intro p e s m args below meth c s₁ B hml hv
  obtain ⟨rfl, hP, hK, hZ⟩ := hv
  have cx : Cxx D C adK adV (fxA A 60) p s m _ meth c cX10_mend 1 RX10 (some .int) := ⟨B.exec, B.bytes, hml, findClass_of_methodNamed B.named, fun w h => atoms_spec (ws := Cond.code yX10_mend cX10_mend 1 (some .int) :: wsL_law) B.pre w (List.mem_cons_of_mem _ h), hK, B.returns, B.notSynchronized, hZ⟩
  obtain ⟨hx, hb, -, hown, hts, -, hr, hlk, -⟩ := id cx
  have hS : va_S (fxA A 60) s.heap s.heap [] := va_S.rf
  have hl := lv_entry ([.ref (A 0)]) (n := 1) (Nat.le_of_ble_eq_true rfl)
  rw [lg_entry_eq]
  generalize (lg_sl ([.ref (A 0)]) ++ List.replicate (1 - (lg_sl ([.ref (A 0)])).length) Slot.unset).toArray = ls at hl ⊢
  have hl : lv_has ls 1 [(0, .ref (A 0))] := hl
  show W p l e rm_X10_mend s m _ below meth c s.heap [] 0 0 _ _
  refine lv_aload_n hx hb dX10_mend_0 rfl (lv_at hl 0 rfl) ?_
  refine gX_0_3 hx hb hts hown hK hP (hts _ kw_28) dX10_mend_1 ?_
  refine gX_10_0 hx hb hts hown hK hP (v := (σ.1 11)) rfl (hts _ kw_220) dX10_mend_4 ?_
  refine lv_if_ne (tgt := 13) hx hb dX10_mend_7 (by decide) (fun c1 => ?_) (fun c1 => ?_)
  · have hf := (if_neg c1).symm.trans hf
    refine lv_aload_n hx hb dX10_mend_13 rfl (lv_at hl 0 rfl) ?_
    refine gX_0_6 hx hb hts hown hK hP (hts _ kw_40) dX10_mend_14 ?_
    refine lv_aload_n hx hb dX10_mend_17 rfl (lv_at hl 0 rfl) ?_
    refine gX_0_3 hx hb hts hown hK hP (hts _ kw_28) dX10_mend_18 ?_
    obtain ⟨σ_r2, h_r2, hf⟩ := bv_some hf
    refine cx_V (As := [.ref (A 10)]) (rest := []) cx (ct_xX0_follow l D C A adK adV hA h_r2) (cw_X10_152 hts ⟨Nat.le_of_ble_eq_true rfl, Nat.le_of_ble_eq_true rfl⟩) (va_recv hK hP (ci := 0) (q0 := 37) rfl (wX_37 A C _)) hP hS rfl hl.1 rfl (Nat.le_of_ble_eq_true rfl) dX10_mend_21 ⟨Nat.zero_le _, Nat.zero_le _⟩ (fun H locs hP hS => ?_)
    refine lv_aload_n hx hb dX10_mend_24 rfl (lv_at hl 0 rfl) ?_
    refine gX_0_8 hx hb hts hown hK hP (hts _ kw_48) dX10_mend_25 ?_
    obtain ⟨⟨r3, σ_r3⟩, h_r3, hf⟩ := bd_some hf
    refine cx_V (As := []) (rest := []) cx (ct_xX8_leaveBadSpots l D C A adK adV hA h_r3) (cw_X10_197 hts ⟨Nat.le_of_ble_eq_true rfl, Nat.le_of_ble_eq_true rfl⟩) (va_recv hK hP (ci := 8) (q0 := 52) rfl (wX_52 A C _)) hP hS rfl hl.1 rfl (Nat.le_of_ble_eq_true rfl) dX10_mend_28 ⟨Nat.zero_le _, Nat.zero_le _⟩ (fun H locs hP hS => ?_)
    exact cx_iret cx hP hS hf dX10_mend_31
  · have hf := (if_pos c1).symm.trans hf
    refine lv_bipush (v := (-4)) hx hb dX10_mend_10 (by decide) ?_
    exact cx_iret cx hP hS hf dX10_mend_12
