set_option maxHeartbeats 4000000 in
set_option maxRecDepth 100000 in
theorem w_F_xX8_sortIn_47 {p : Program} {l : Launch} {e : Env} {s : State} {m : MethodId} {args : Array Value} {below : List Frame} {meth : Method} {c : Code} {D : va_G} {C : Nat → ClassId} {A adK adV : Nat → Nat} (hA : apA A 60) (cx : Cxx D C adK adV (fxA A 60) p s m args meth c cX8_sortIn 3 RX8 none) {res : St} : ∀ (x1 : Int32) (x2 : Int32) (σ : St) (H : Heap) (locs : List Loc) (ls : Array Slot), F_xX8_sortIn_47 x1 x2 σ = some res → lv_has ls 3 [(0, .ref (A 52)), (1, .int x1), (2, .int x2)] → va_P D vwCl (wX A C σ) H → va_S (fxA A 60) s.heap H locs → W p l e rm_X8_sortIn s m args below meth c H locs 0 0 (MQ below (Qcx D (wX A C) (fxA A 60) none res) args s 0 0 (fxA A 60)) (F0 m 47 ls []) := by
  obtain ⟨hx, hb, hml, hown, hts, hK, hr, hlk, hZ⟩ := id cx
  intro x1 x2 σ H locs ls hf hl hP hS
  refine lv_iload_n hx hb dX8_sortIn_47 rfl (lv_at hl 2 rfl) ?_
  refine lv_if_lt (tgt := 64) hx hb dX8_sortIn_48 (by decide) (fun c1 => ?_) (fun c1 => ?_)
  · have hf := (if_pos c1).symm.trans hf
    exact cx_vret cx hP hS hf dX8_sortIn_64
  · have hf := (if_neg c1).symm.trans hf
    refine lv_iload_n hx hb dX8_sortIn_51 rfl (lv_at hl 2 rfl) ?_
    refine lv_bipush (v := 6) hx hb dX8_sortIn_52 (by decide) ?_
    refine lv_icmp_ge (tgt := 64) hx hb dX8_sortIn_54 (by decide) (fun c2 => ?_) (fun c2 => ?_)
    · have hf := (if_pos c2).symm.trans hf
      exact cx_vret cx hP hS hf dX8_sortIn_64
    · have hf := (if_neg c2).symm.trans hf
      refine lv_aload_n hx hb dX8_sortIn_57 rfl (lv_at hl 0 rfl) ?_
      refine gX_52_5 hx hb hts hown hK hP (hts _ kw_137) dX8_sortIn_58 ?_
      refine lv_iload_n hx hb dX8_sortIn_61 rfl (lv_at hl 2 rfl) ?_
      refine lv_iload_n hx hb dX8_sortIn_62 rfl (lv_at hl 1 rfl) ?_
      obtain ⟨z3, hf⟩ := gd_some hf
      refine pX_a54 hx hb hK hP hA hS (ib_in z3) dX8_sortIn_63 (fun H locs hP hS => ?_)
      have hP : va_P D vwCl (wX A C (sA σ 54 (upd (σ.2.1 54) x2.toNatClampNeg x1))) H := hP
      exact cx_vret cx hP hS hf dX8_sortIn_64
set_option maxHeartbeats 4000000 in
set_option maxRecDepth 100000 in
theorem w_F_xX8_sortIn_5 {p : Program} {l : Launch} {e : Env} {s : State} {m : MethodId} {args : Array Value} {below : List Frame} {meth : Method} {c : Code} {D : va_G} {C : Nat → ClassId} {A adK adV : Nat → Nat} (hA : apA A 60) (cx : Cxx D C adK adV (fxA A 60) p s m args meth c cX8_sortIn 3 RX8 none) {res : St} : ∀ (n : Nat), ∀ (x1 : Int32) (x2 : Int32) (σ : St) (H : Heap) (locs : List Loc) (ls : Array Slot), F_xX8_sortIn_5 n x1 x2 σ = some res → lv_has ls 3 [(0, .ref (A 52)), (1, .int x1), (2, .int x2)] → va_P D vwCl (wX A C σ) H → va_S (fxA A 60) s.heap H locs → W p l e rm_X8_sortIn s m args below meth c H locs 0 0 (MQ below (Qcx D (wX A C) (fxA A 60) none res) args s 0 0 (fxA A 60)) (F0 m 5 ls []) := by
  obtain ⟨hx, hb, hml, hown, hts, hK, hr, hlk, hZ⟩ := id cx
  intro n
  induction n with
  | zero =>
    intro x1 x2 σ H locs ls hf hl hP hS
    exact absurd (show (none : Option St) = some res from hf) (by intro h; cases h)
  | succ n ih =>
    intro x1 x2 σ H locs ls hf hl hP hS
    refine lv_iload_n hx hb dX8_sortIn_5 rfl (lv_at hl 2 rfl) ?_
    refine lv_if_le (tgt := 47) hx hb dX8_sortIn_6 (by decide) (fun c4 => ?_) (fun c4 => ?_)
    · have hf := (if_pos c4).symm.trans hf
      exact w_F_xX8_sortIn_47 hA cx _ _ _ _ _ _ hf (lv_sub hl [0, 1, 2] rfl) hP hS
    · have hf := (if_neg c4).symm.trans hf
      refine lv_iload_n hx hb dX8_sortIn_9 rfl (lv_at hl 2 rfl) ?_
      refine lv_bipush (v := 6) hx hb dX8_sortIn_10 (by decide) ?_
      refine lv_icmp_ge (tgt := 47) hx hb dX8_sortIn_12 (by decide) (fun c5 => ?_) (fun c5 => ?_)
      · have hf := (if_pos c5).symm.trans hf
        exact w_F_xX8_sortIn_47 hA cx _ _ _ _ _ _ hf (lv_sub hl [0, 1, 2] rfl) hP hS
      · have hf := (if_neg c5).symm.trans hf
        refine lv_aload_n hx hb dX8_sortIn_15 rfl (lv_at hl 0 rfl) ?_
        refine gX_52_5 hx hb hts hown hK hP (hts _ kw_137) dX8_sortIn_16 ?_
        refine lv_iload_n hx hb dX8_sortIn_19 rfl (lv_at hl 2 rfl) ?_
        refine lv_iconst (v := 1) hx hb dX8_sortIn_20 (by decide) ?_
        refine lv_isub hx hb dX8_sortIn_21 ?_
        obtain ⟨z6, hf⟩ := gd_some hf
        refine gX_a54 hx hb hK hP (ib_in z6) (v := (σ.2.1 54 (x2 - 1).toNatClampNeg)) rfl dX8_sortIn_22 ?_
        refine lv_iload_n hx hb dX8_sortIn_23 rfl (lv_at hl 1 rfl) ?_
        refine lv_icmp_le (tgt := 47) hx hb dX8_sortIn_24 (by decide) (fun c7 => ?_) (fun c7 => ?_)
        · have hf := (if_pos c7).symm.trans hf
          exact w_F_xX8_sortIn_47 hA cx _ _ _ _ _ _ hf (lv_sub hl [0, 1, 2] rfl) hP hS
        · have hf := (if_neg c7).symm.trans hf
          refine lv_aload_n hx hb dX8_sortIn_27 rfl (lv_at hl 0 rfl) ?_
          refine gX_52_5 hx hb hts hown hK hP (hts _ kw_137) dX8_sortIn_28 ?_
          refine lv_iload_n hx hb dX8_sortIn_31 rfl (lv_at hl 2 rfl) ?_
          refine lv_aload_n hx hb dX8_sortIn_32 rfl (lv_at hl 0 rfl) ?_
          refine gX_52_5 hx hb hts hown hK hP (hts _ kw_137) dX8_sortIn_33 ?_
          refine lv_iload_n hx hb dX8_sortIn_36 rfl (lv_at hl 2 rfl) ?_
          refine lv_iconst (v := 1) hx hb dX8_sortIn_37 (by decide) ?_
          refine lv_isub hx hb dX8_sortIn_38 ?_
          refine gX_a54 hx hb hK hP (ib_in z6) (v := (σ.2.1 54 (x2 - 1).toNatClampNeg)) rfl dX8_sortIn_39 ?_
          obtain ⟨z8, hf⟩ := gd_some hf
          refine pX_a54 hx hb hK hP hA hS (ib_in z8) dX8_sortIn_40 (fun H locs hP hS => ?_)
          refine lv_iinc (v := (x2 + (-1))) (lv' := [(2, .int (x2 + (-1))), (0, .ref (A 52)), (1, .int x1)]) hx hb dX8_sortIn_41 hl (k := 2) rfl rfl (by decide) rfl (fun ls hl => ?_)
          refine lv_goto (tgt := 5) hx hb dX8_sortIn_44 (by decide) ?_
          have hP : va_P D vwCl (wX A C (sA σ 54 (upd (σ.2.1 54) x2.toNatClampNeg (σ.2.1 54 (x2 - 1).toNatClampNeg)))) H := hP
          exact ih _ _ _ _ _ _ hf (lv_sub hl [1, 2, 0] rfl) hP hS
set_option maxHeartbeats 4000000 in
set_option maxRecDepth 100000 in
theorem ct_xX8_sortIn (l : Launch) (D : va_G) (C : Nat → ClassId) (A adK adV : Nat → Nat) (hA : apA A 60) {x1 : Int32} {σ : St} {res : St} (hf : F_xX8_sortIn x1 σ = some res) : Met l yX8_sortIn (Cond.code yX8_sortIn cX8_sortIn 3 none :: wsL_law) rm_X8_sortIn (Pcx D C (wX A C) adK adV (fxA A 60) [.ref (A 52), .int x1] σ) (Qcx D (wX A C) (fxA A 60) none res) 0 0 (fxA A 60) := by
  refine Met.ofW (cc := cX8_sortIn) (maxL := 3) (ret := none) (by decide) rfl ?_
  intro p e s m args below meth c s₁ B hml hv
  obtain ⟨rfl, hP, hK, hZ⟩ := hv
  have cx : Cxx D C adK adV (fxA A 60) p s m _ meth c cX8_sortIn 3 RX8 none := ⟨B.exec, B.bytes, hml, findClass_of_methodNamed B.named, fun w h => atoms_spec (ws := Cond.code yX8_sortIn cX8_sortIn 3 none :: wsL_law) B.pre w (List.mem_cons_of_mem _ h), hK, B.returns, B.notSynchronized, hZ⟩
  obtain ⟨hx, hb, -, hown, hts, -, hr, hlk, -⟩ := id cx
  have hS : va_S (fxA A 60) s.heap s.heap [] := va_S.rf
  have hl := lv_entry ([.ref (A 52), .int x1]) (n := 3) (Nat.le_of_ble_eq_true rfl)
  rw [lg_entry_eq]
  generalize (lg_sl ([.ref (A 52), .int x1]) ++ List.replicate (3 - (lg_sl ([.ref (A 52), .int x1])).length) Slot.unset).toArray = ls at hl ⊢
  have hl : lv_has ls 3 [(0, .ref (A 52)), (1, .int x1)] := hl
  show W p l e rm_X8_sortIn s m _ below meth c s.heap [] 0 0 _ _
  refine lv_aload_n hx hb dX8_sortIn_0 rfl (lv_at hl 0 rfl) ?_
  refine gX_52_3 hx hb hts hown hK hP (v := (σ.1 31)) rfl (hts _ kw_958) dX8_sortIn_1 ?_
  refine lv_istore_n (lv' := [(2, .int (σ.1 31)), (0, .ref (A 52)), (1, .int x1)]) hx hb dX8_sortIn_4 rfl hl (by decide) rfl (fun ls hl => ?_)
  exact w_F_xX8_sortIn_5 hA cx FU _ _ _ _ _ _ hf (lv_sub hl [1, 2, 0] rfl) hP hS
set_option maxHeartbeats 4000000 in
set_option maxRecDepth 100000 in
theorem w_F_xX8_choose_7 {p : Program} {l : Launch} {e : Env} {s : State} {m : MethodId} {args : Array Value} {below : List Frame} {meth : Method} {c : Code} {D : va_G} {C : Nat → ClassId} {A adK adV : Nat → Nat} (hA : apA A 60) (cx : Cxx D C adK adV (fxA A 60) p s m args meth c cX8_choose 4 RX8 (some .boolean)) {res : (Int32 × St)} : ∀ (n : Nat), ∀ (x1 : Int64) (x3 : Int32) (σ : St) (H : Heap) (locs : List Loc) (ls : Array Slot), F_xX8_choose_7 n x1 x3 σ = some res → lv_has ls 4 [(0, .ref (A 52)), (1, .long x1), (3, .int x3)] → va_P D vwCl (wX A C σ) H → va_S (fxA A 60) s.heap H locs → W p l e rm_X8_choose s m args below meth c H locs 0 0 (MQ below (Qcx D (wX A C) (fxA A 60) (some (.int res.1)) res.2) args s 0 0 (fxA A 60)) (F0 m 7 ls []) := by
  obtain ⟨hx, hb, hml, hown, hts, hK, hr, hlk, hZ⟩ := id cx
  intro n
  induction n with
  | zero =>
    intro x1 x3 σ H locs ls hf hl hP hS
    exact absurd (show (none : Option (Int32 × St)) = some res from hf) (by intro h; cases h)
  | succ n ih =>
    intro x1 x3 σ H locs ls hf hl hP hS
    refine lv_iload_n hx hb dX8_choose_7 rfl (lv_at hl 2 rfl) ?_
    refine lv_aload_n hx hb dX8_choose_8 rfl (lv_at hl 0 rfl) ?_
    refine gX_52_1 hx hb hts hown hK hP (hts _ kw_140) dX8_choose_9 ?_
    obtain ⟨⟨r1, σ_r1⟩, h_r1, hf⟩ := bd_some hf
    refine cx_V (As := []) (rest := [.int x3]) cx (ct_xX3_countNames l D C A adK adV hA h_r1) (cw_X8_63 hts ⟨Nat.le_of_ble_eq_true rfl, Nat.le_of_ble_eq_true rfl⟩) (va_recv hK hP (ci := 3) (q0 := 25) rfl (wX_25 A C _)) hP hS rfl hl.1 rfl (Nat.le_of_ble_eq_true rfl) dX8_choose_12 ⟨Nat.zero_le _, Nat.zero_le _⟩ (fun H locs hP hS => ?_)
    refine lv_icmp_ge (tgt := 99) hx hb dX8_choose_15 (by decide) (fun c2 => ?_) (fun c2 => ?_)
    · have hf := (if_pos c2).symm.trans hf
      refine lv_iconst (v := 1) hx hb dX8_choose_99 (by decide) ?_
      exact cx_zret cx rfl hP hS hf dX8_choose_100
    · have hf := (if_neg c2).symm.trans hf
      refine lv_lload_n hx hb dX8_choose_18 rfl (lv_at hl 1 rfl) ?_
      refine lv_iload_n hx hb dX8_choose_19 rfl (lv_at hl 2 rfl) ?_
      refine lv_lushr hx hb dX8_choose_20 rfl ?_
      refine lv_lconst (v := 1) hx hb dX8_choose_21 (by decide) ?_
      refine lv_land hx hb dX8_choose_22 ?_
      refine lv_lconst (v := 0) hx hb dX8_choose_23 (by decide) ?_
      refine W.lcmp hx hb dX8_choose_24 ?_
      refine lv_if_eq (tgt := 93) hx hb dX8_choose_25 (by decide) (fun c3 => ?_) (fun c3 => ?_)
      · have hf := (if_pos c3).symm.trans hf
        refine lv_iinc (v := (x3 + 1)) (lv' := [(3, .int (x3 + 1)), (0, .ref (A 52)), (1, .long x1)]) hx hb dX8_choose_93 hl (k := 2) rfl rfl (by decide) rfl (fun ls hl => ?_)
        refine lv_goto (tgt := 7) hx hb dX8_choose_96 (by decide) ?_
        exact ih _ _ _ _ _ _ hf (lv_sub hl [1, 2, 0] rfl) hP hS
      · have hf := (if_neg c3).symm.trans hf
        refine lv_aload_n hx hb dX8_choose_28 rfl (lv_at hl 0 rfl) ?_
        refine gX_52_3 hx hb hts hown hK hP (v := (σ_r1.1 31)) rfl (hts _ kw_958) dX8_choose_29 ?_
        refine lv_if_lt (tgt := 93) hx hb dX8_choose_32 (by decide) (fun c4 => ?_) (fun c4 => ?_)
        · have hf := (if_pos c4).symm.trans hf
          refine lv_iinc (v := (x3 + 1)) (lv' := [(3, .int (x3 + 1)), (0, .ref (A 52)), (1, .long x1)]) hx hb dX8_choose_93 hl (k := 2) rfl rfl (by decide) rfl (fun ls hl => ?_)
          refine lv_goto (tgt := 7) hx hb dX8_choose_96 (by decide) ?_
          exact ih _ _ _ _ _ _ hf (lv_sub hl [1, 2, 0] rfl) hP hS
        · have hf := (if_neg c4).symm.trans hf
          refine lv_aload_n hx hb dX8_choose_35 rfl (lv_at hl 0 rfl) ?_
          refine gX_52_3 hx hb hts hown hK hP (v := (σ_r1.1 31)) rfl (hts _ kw_958) dX8_choose_36 ?_
          refine lv_bipush (v := 6) hx hb dX8_choose_39 (by decide) ?_
          refine lv_icmp_lt (tgt := 47) hx hb dX8_choose_41 (by decide) (fun c5 => ?_) (fun c5 => ?_)
          · have hf := (if_pos c5).symm.trans hf
            refine lv_aload_n hx hb dX8_choose_47 rfl (lv_at hl 0 rfl) ?_
            refine gX_52_1 hx hb hts hown hK hP (hts _ kw_140) dX8_choose_48 ?_
            refine lv_iload_n hx hb dX8_choose_51 rfl (lv_at hl 2 rfl) ?_
            obtain ⟨⟨r6, σ_r6⟩, h_r6, hf⟩ := bd_some hf
            refine cx_V (As := [.int x3]) (rest := []) cx (ct_xX3_liesOnBad l D C A adK adV hA h_r6) (cw_X8_66 hts ⟨Nat.le_of_ble_eq_true rfl, Nat.le_of_ble_eq_true rfl⟩) (va_recv hK hP (ci := 3) (q0 := 25) rfl (wX_25 A C _)) hP hS rfl hl.1 rfl (Nat.le_of_ble_eq_true rfl) dX8_choose_52 ⟨Nat.zero_le _, Nat.zero_le _⟩ (fun H locs hP hS => ?_)
            refine lv_if_eq (tgt := 60) hx hb dX8_choose_55 (by decide) (fun c7 => ?_) (fun c7 => ?_)
            · have hf := (if_pos c7).symm.trans hf
              refine lv_aload_n hx hb dX8_choose_60 rfl (lv_at hl 0 rfl) ?_
              refine gX_52_4 hx hb hts hown hK hP (hts _ kw_136) dX8_choose_61 ?_
              refine lv_aload_n hx hb dX8_choose_64 rfl (lv_at hl 0 rfl) ?_
              refine gX_52_3 hx hb hts hown hK hP (v := (σ_r6.1 31)) rfl (hts _ kw_958) dX8_choose_65 ?_
              refine lv_iload_n hx hb dX8_choose_68 rfl (lv_at hl 2 rfl) ?_
              obtain ⟨z8, hf⟩ := gd_some hf
              refine pX_a53 hx hb hK hP hA hS (ib_in z8) dX8_choose_69 (fun H locs hP hS => ?_)
              refine lv_aload_n hx hb dX8_choose_70 rfl (lv_at hl 0 rfl) ?_
              refine lv_aload_n hx hb dX8_choose_71 rfl (lv_at hl 0 rfl) ?_
              refine gX_52_1 hx hb hts hown hK hP (hts _ kw_140) dX8_choose_72 ?_
              refine gX_25_2 hx hb hts hown hK hP (hts _ kw_878) dX8_choose_75 ?_
              refine lv_iload_n hx hb dX8_choose_78 rfl (lv_at hl 2 rfl) ?_
              obtain ⟨z9, hf⟩ := gd_some hf
              refine gX_a26 hx hb hK hP (ib_in z9) (v := (σ_r6.2.1 26 x3.toNatClampNeg)) rfl dX8_choose_79 ?_
              have hP : va_P D vwCl (wX A C (sA σ_r6 53 (upd (σ_r6.2.1 53) (σ_r6.1 31).toNatClampNeg x3))) H := hP
              obtain ⟨σ_r10, h_r10, hf⟩ := bv_some hf
              refine cx_V (As := [.int (σ_r6.2.1 26 x3.toNatClampNeg)]) (rest := []) cx (ct_xX8_sortIn l D C A adK adV hA h_r10) (cw_X8_91 hts ⟨Nat.le_of_ble_eq_true rfl, Nat.le_of_ble_eq_true rfl⟩) (va_recv hK hP (ci := 8) (q0 := 52) rfl (wX_52 A C _)) hP hS rfl hl.1 rfl (Nat.le_of_ble_eq_true rfl) dX8_choose_80 ⟨Nat.zero_le _, Nat.zero_le _⟩ (fun H locs hP hS => ?_)
              refine lv_aload_n hx hb dX8_choose_83 rfl (lv_at hl 0 rfl) ?_
              refine lv_dup hx hb dX8_choose_84 rfl ?_
              refine gX_52_3 hx hb hts hown hK hP (v := (σ_r10.1 31)) rfl (hts _ kw_958) dX8_choose_85 ?_
              refine lv_iconst (v := 1) hx hb dX8_choose_88 (by decide) ?_
              refine lv_iadd hx hb dX8_choose_89 ?_
              refine pX_52_3 hx hb hts hown hK hP hA hS (hts _ kw_958) dX8_choose_90 (fun H locs hP hS => ?_)
              refine lv_iinc (v := (x3 + 1)) (lv' := [(3, .int (x3 + 1)), (0, .ref (A 52)), (1, .long x1)]) hx hb dX8_choose_93 hl (k := 2) rfl rfl (by decide) rfl (fun ls hl => ?_)
              refine lv_goto (tgt := 7) hx hb dX8_choose_96 (by decide) ?_
              have hP : va_P D vwCl (wX A C (sI σ_r10 31 ((σ_r10.1 31) + 1))) H := hP
              exact ih _ _ _ _ _ _ hf (lv_sub hl [1, 2, 0] rfl) hP hS
            · have hf := (if_neg c7).symm.trans hf
              refine lv_iconst (v := 0) hx hb dX8_choose_58 (by decide) ?_
              exact cx_zret cx rfl hP hS hf dX8_choose_59
          · have hf := (if_neg c5).symm.trans hf
            refine lv_goto (tgt := 93) hx hb dX8_choose_44 (by decide) ?_
            refine lv_iinc (v := (x3 + 1)) (lv' := [(3, .int (x3 + 1)), (0, .ref (A 52)), (1, .long x1)]) hx hb dX8_choose_93 hl (k := 2) rfl rfl (by decide) rfl (fun ls hl => ?_)
            refine lv_goto (tgt := 7) hx hb dX8_choose_96 (by decide) ?_
            exact ih _ _ _ _ _ _ hf (lv_sub hl [1, 2, 0] rfl) hP hS
set_option maxHeartbeats 4000000 in
set_option maxRecDepth 100000 in
theorem ct_xX8_choose (l : Launch) (D : va_G) (C : Nat → ClassId) (A adK adV : Nat → Nat) (hA : apA A 60) {x1 : Int64} {σ : St} {res : (Int32 × St)} (hf : F_xX8_choose x1 σ = some res) : Met l yX8_choose (Cond.code yX8_choose cX8_choose 4 (some .boolean) :: wsL_law) rm_X8_choose (Pcx D C (wX A C) adK adV (fxA A 60) [.ref (A 52), .long x1] σ) (Qcx D (wX A C) (fxA A 60) (some (.int res.1)) res.2) 0 0 (fxA A 60) := by
  refine Met.ofW (cc := cX8_choose) (maxL := 4) (ret := (some .boolean)) (by decide) rfl ?_
  intro p e s m args below meth c s₁ B hml hv
  obtain ⟨rfl, hP, hK, hZ⟩ := hv
  have cx : Cxx D C adK adV (fxA A 60) p s m _ meth c cX8_choose 4 RX8 (some .boolean) := ⟨B.exec, B.bytes, hml, findClass_of_methodNamed B.named, fun w h => atoms_spec (ws := Cond.code yX8_choose cX8_choose 4 (some .boolean) :: wsL_law) B.pre w (List.mem_cons_of_mem _ h), hK, B.returns, B.notSynchronized, hZ⟩
  obtain ⟨hx, hb, -, hown, hts, -, hr, hlk, -⟩ := id cx
  have hS : va_S (fxA A 60) s.heap s.heap [] := va_S.rf
  have hl := lv_entry ([.ref (A 52), .long x1]) (n := 4) (Nat.le_of_ble_eq_true rfl)
  rw [lg_entry_eq]
  generalize (lg_sl ([.ref (A 52), .long x1]) ++ List.replicate (4 - (lg_sl ([.ref (A 52), .long x1])).length) Slot.unset).toArray = ls at hl ⊢
  have hl : lv_has ls 4 [(0, .ref (A 52)), (1, .long x1)] := hl
  show W p l e rm_X8_choose s m _ below meth c s.heap [] 0 0 _ _
  refine lv_aload_n hx hb dX8_choose_0 rfl (lv_at hl 0 rfl) ?_
  refine lv_iconst (v := 0) hx hb dX8_choose_1 (by decide) ?_
  refine pX_52_3 hx hb hts hown hK hP hA hS (hts _ kw_958) dX8_choose_2 (fun H locs hP hS => ?_)
  refine lv_iconst (v := 0) hx hb dX8_choose_5 (by decide) ?_
  refine lv_istore_n (lv' := [(3, .int 0), (0, .ref (A 52)), (1, .long x1)]) hx hb dX8_choose_6 rfl hl (by decide) rfl (fun ls hl => ?_)
  have hP : va_P D vwCl (wX A C (sI σ 31 0)) H := hP
  exact w_F_xX8_choose_7 hA cx FU _ _ _ _ _ _ hf (lv_sub hl [1, 2, 0] rfl) hP hS
set_option maxHeartbeats 4000000 in
set_option maxRecDepth 100000 in
theorem w_F_xX8_layRow_2 {p : Program} {l : Launch} {e : Env} {s : State} {m : MethodId} {args : Array Value} {below : List Frame} {meth : Method} {c : Code} {D : va_G} {C : Nat → ClassId} {A adK adV : Nat → Nat} (hA : apA A 60) (cx : Cxx D C adK adV (fxA A 60) p s m args meth c cX8_layRow 3 RX8 none) {res : St} : ∀ (n : Nat), ∀ (x2 : Int32) (σ : St) (H : Heap) (locs : List Loc) (ls : Array Slot), F_xX8_layRow_2 n x2 σ = some res → lv_has ls 3 [(0, .ref (A 52)), (1, .ref (A 55)), (2, .int x2)] → va_P D vwCl (wX A C σ) H → va_S (fxA A 60) s.heap H locs → W p l e rm_X8_layRow s m args below meth c H locs 0 0 (MQ below (Qcx D (wX A C) (fxA A 60) none res) args s 0 0 (fxA A 60)) (F0 m 2 ls []) := by
  obtain ⟨hx, hb, hml, hown, hts, hK, hr, hlk, hZ⟩ := id cx
  intro n
  induction n with
  | zero =>
    intro x2 σ H locs ls hf hl hP hS
    exact absurd (show (none : Option St) = some res from hf) (by intro h; cases h)
  | succ n ih =>
    intro x2 σ H locs ls hf hl hP hS
    refine lv_iload_n hx hb dX8_layRow_2 rfl (lv_at hl 2 rfl) ?_
    refine lv_aload_n hx hb dX8_layRow_3 rfl (lv_at hl 0 rfl) ?_
    refine gX_52_3 hx hb hts hown hK hP (v := (σ.1 31)) rfl (hts _ kw_958) dX8_layRow_4 ?_
    refine lv_icmp_ge (tgt := 44) hx hb dX8_layRow_7 (by decide) (fun c1 => ?_) (fun c1 => ?_)
    · have hf := (if_pos c1).symm.trans hf
      exact cx_vret cx hP hS hf dX8_layRow_44
    · have hf := (if_neg c1).symm.trans hf
      refine lv_iload_n hx hb dX8_layRow_10 rfl (lv_at hl 2 rfl) ?_
      refine lv_bipush (v := 6) hx hb dX8_layRow_11 (by decide) ?_
      refine lv_icmp_ge (tgt := 44) hx hb dX8_layRow_13 (by decide) (fun c2 => ?_) (fun c2 => ?_)
      · have hf := (if_pos c2).symm.trans hf
        exact cx_vret cx hP hS hf dX8_layRow_44
      · have hf := (if_neg c2).symm.trans hf
        refine lv_iload_n hx hb dX8_layRow_16 rfl (lv_at hl 2 rfl) ?_
        refine lv_aload_n hx hb dX8_layRow_17 rfl (lv_at hl 1 rfl) ?_
        refine va_alen hx hb hK hP 55 1 (wX_55 A C _) rfl (v := 6) rfl dX8_layRow_18 ?_
        refine lv_icmp_ge (tgt := 44) hx hb dX8_layRow_19 (by decide) (fun c3 => ?_) (fun c3 => ?_)
        · have hf := (if_pos c3).symm.trans hf
          exact cx_vret cx hP hS hf dX8_layRow_44
        · have hf := (if_neg c3).symm.trans hf
          refine lv_aload_n hx hb dX8_layRow_22 rfl (lv_at hl 0 rfl) ?_
          refine gX_52_1 hx hb hts hown hK hP (hts _ kw_140) dX8_layRow_23 ?_
          refine lv_aload_n hx hb dX8_layRow_26 rfl (lv_at hl 0 rfl) ?_
          refine gX_52_4 hx hb hts hown hK hP (hts _ kw_136) dX8_layRow_27 ?_
          refine lv_iload_n hx hb dX8_layRow_30 rfl (lv_at hl 2 rfl) ?_
          obtain ⟨z4, hf⟩ := gd_some hf
          refine gX_a53 hx hb hK hP (ib_in z4) (v := (σ.2.1 53 x2.toNatClampNeg)) rfl dX8_layRow_31 ?_
          refine lv_aload_n hx hb dX8_layRow_32 rfl (lv_at hl 1 rfl) ?_
          refine lv_iload_n hx hb dX8_layRow_33 rfl (lv_at hl 2 rfl) ?_
          refine gX_a55 hx hb hK hP (ib_in z4) (v := (σ.2.1 55 x2.toNatClampNeg)) rfl dX8_layRow_34 ?_
          obtain ⟨σ_r5, h_r5, hf⟩ := bv_some hf
          refine cx_V (As := [.int (σ.2.1 53 x2.toNatClampNeg), .int (σ.2.1 55 x2.toNatClampNeg)]) (rest := []) cx (ct_xX3_put l D C A adK adV hA h_r5) (cw_X8_109 hts ⟨Nat.le_of_ble_eq_true rfl, Nat.le_of_ble_eq_true rfl⟩) (va_recv hK hP (ci := 3) (q0 := 25) rfl (wX_25 A C _)) hP hS rfl hl.1 rfl (Nat.le_of_ble_eq_true rfl) dX8_layRow_35 ⟨Nat.zero_le _, Nat.zero_le _⟩ (fun H locs hP hS => ?_)
          refine lv_iinc (v := (x2 + 1)) (lv' := [(2, .int (x2 + 1)), (0, .ref (A 52)), (1, .ref (A 55))]) hx hb dX8_layRow_38 hl (k := 2) rfl rfl (by decide) rfl (fun ls hl => ?_)
          refine lv_goto (tgt := 2) hx hb dX8_layRow_41 (by decide) ?_
          exact ih _ _ _ _ _ hf (lv_sub hl [1, 2, 0] rfl) hP hS
set_option maxHeartbeats 4000000 in
set_option maxRecDepth 100000 in
theorem ct_xX8_layRow (l : Launch) (D : va_G) (C : Nat → ClassId) (A adK adV : Nat → Nat) (hA : apA A 60)  {σ : St} {res : St} (hf : F_xX8_layRow σ = some res) : Met l yX8_layRow (Cond.code yX8_layRow cX8_layRow 3 none :: wsL_law) rm_X8_layRow (Pcx D C (wX A C) adK adV (fxA A 60) [.ref (A 52), .ref (A 55)] σ) (Qcx D (wX A C) (fxA A 60) none res) 0 0 (fxA A 60) := by
  refine Met.ofW (cc := cX8_layRow) (maxL := 3) (ret := none) (by decide) rfl ?_
  intro p e s m args below meth c s₁ B hml hv
  obtain ⟨rfl, hP, hK, hZ⟩ := hv
  have cx : Cxx D C adK adV (fxA A 60) p s m _ meth c cX8_layRow 3 RX8 none := ⟨B.exec, B.bytes, hml, findClass_of_methodNamed B.named, fun w h => atoms_spec (ws := Cond.code yX8_layRow cX8_layRow 3 none :: wsL_law) B.pre w (List.mem_cons_of_mem _ h), hK, B.returns, B.notSynchronized, hZ⟩
  obtain ⟨hx, hb, -, hown, hts, -, hr, hlk, -⟩ := id cx
  have hS : va_S (fxA A 60) s.heap s.heap [] := va_S.rf
  have hl := lv_entry ([.ref (A 52), .ref (A 55)]) (n := 3) (Nat.le_of_ble_eq_true rfl)
  rw [lg_entry_eq]
  generalize (lg_sl ([.ref (A 52), .ref (A 55)]) ++ List.replicate (3 - (lg_sl ([.ref (A 52), .ref (A 55)])).length) Slot.unset).toArray = ls at hl ⊢
  have hl : lv_has ls 3 [(0, .ref (A 52)), (1, .ref (A 55))] := hl
  show W p l e rm_X8_layRow s m _ below meth c s.heap [] 0 0 _ _
  refine lv_iconst (v := 0) hx hb dX8_layRow_0 (by decide) ?_
  refine lv_istore_n (lv' := [(2, .int 0), (0, .ref (A 52)), (1, .ref (A 55))]) hx hb dX8_layRow_1 rfl hl (by decide) rfl (fun ls hl => ?_)
  exact w_F_xX8_layRow_2 hA cx FU _ _ _ _ _ hf (lv_sub hl [1, 2, 0] rfl) hP hS
set_option maxHeartbeats 4000000 in
set_option maxRecDepth 100000 in
theorem ct_xX8_swapSpots (l : Launch) (D : va_G) (C : Nat → ClassId) (A adK adV : Nat → Nat) (hA : apA A 60) {x1 : Int32} {x2 : Int32} {σ : St} {res : St} (hf : F_xX8_swapSpots x1 x2 σ = some res) : Met l yX8_swapSpots (Cond.code yX8_swapSpots cX8_swapSpots 4 none :: wsL_law) rm_X8_swapSpots (Pcx D C (wX A C) adK adV (fxA A 60) [.ref (A 52), .int x1, .int x2] σ) (Qcx D (wX A C) (fxA A 60) none res) 0 0 (fxA A 60) := by
  refine Met.ofW (cc := cX8_swapSpots) (maxL := 4) (ret := none) (by decide) rfl ?_
  intro p e s m args below meth c s₁ B hml hv
  obtain ⟨rfl, hP, hK, hZ⟩ := hv
  have cx : Cxx D C adK adV (fxA A 60) p s m _ meth c cX8_swapSpots 4 RX8 none := ⟨B.exec, B.bytes, hml, findClass_of_methodNamed B.named, fun w h => atoms_spec (ws := Cond.code yX8_swapSpots cX8_swapSpots 4 none :: wsL_law) B.pre w (List.mem_cons_of_mem _ h), hK, B.returns, B.notSynchronized, hZ⟩
  obtain ⟨hx, hb, -, hown, hts, -, hr, hlk, -⟩ := id cx
  have hS : va_S (fxA A 60) s.heap s.heap [] := va_S.rf
  have hl := lv_entry ([.ref (A 52), .int x1, .int x2]) (n := 4) (Nat.le_of_ble_eq_true rfl)
  rw [lg_entry_eq]
  generalize (lg_sl ([.ref (A 52), .int x1, .int x2]) ++ List.replicate (4 - (lg_sl ([.ref (A 52), .int x1, .int x2])).length) Slot.unset).toArray = ls at hl ⊢
  have hl : lv_has ls 4 [(0, .ref (A 52)), (1, .int x1), (2, .int x2)] := hl
  show W p l e rm_X8_swapSpots s m _ below meth c s.heap [] 0 0 _ _
  refine lv_aload_n hx hb dX8_swapSpots_0 rfl (lv_at hl 0 rfl) ?_
  refine gX_52_5 hx hb hts hown hK hP (hts _ kw_137) dX8_swapSpots_1 ?_
  refine lv_iload_n hx hb dX8_swapSpots_4 rfl (lv_at hl 1 rfl) ?_
  obtain ⟨z1, hf⟩ := gd_some hf
  refine gX_a54 hx hb hK hP (ib_in z1) (v := (σ.2.1 54 x1.toNatClampNeg)) rfl dX8_swapSpots_5 ?_
  refine lv_istore_n (lv' := [(3, .int (σ.2.1 54 x1.toNatClampNeg)), (0, .ref (A 52)), (1, .int x1), (2, .int x2)]) hx hb dX8_swapSpots_6 rfl hl (by decide) rfl (fun ls hl => ?_)
  refine lv_aload_n hx hb dX8_swapSpots_7 rfl (lv_at hl 1 rfl) ?_
  refine gX_52_5 hx hb hts hown hK hP (hts _ kw_137) dX8_swapSpots_8 ?_
  refine lv_iload_n hx hb dX8_swapSpots_11 rfl (lv_at hl 2 rfl) ?_
  refine lv_aload_n hx hb dX8_swapSpots_12 rfl (lv_at hl 1 rfl) ?_
  refine gX_52_5 hx hb hts hown hK hP (hts _ kw_137) dX8_swapSpots_13 ?_
  refine lv_iload_n hx hb dX8_swapSpots_16 rfl (lv_at hl 3 rfl) ?_
  obtain ⟨z2, hf⟩ := gd_some hf
  refine gX_a54 hx hb hK hP (ib_in z2) (v := (σ.2.1 54 x2.toNatClampNeg)) rfl dX8_swapSpots_17 ?_
  refine pX_a54 hx hb hK hP hA hS (ib_in z1) dX8_swapSpots_18 (fun H locs hP hS => ?_)
  refine lv_aload_n hx hb dX8_swapSpots_19 rfl (lv_at hl 1 rfl) ?_
  refine gX_52_5 hx hb hts hown hK hP (hts _ kw_137) dX8_swapSpots_20 ?_
  refine lv_iload_n hx hb dX8_swapSpots_23 rfl (lv_at hl 3 rfl) ?_
  refine lv_iload_n hx hb dX8_swapSpots_24 rfl (lv_at hl 0 rfl) ?_
  refine pX_a54 hx hb hK hP hA hS (ib_in z2) dX8_swapSpots_25 (fun H locs hP hS => ?_)
  have hP : va_P D vwCl (wX A C (sA σ 54 (upd (upd (σ.2.1 54) x1.toNatClampNeg (σ.2.1 54 x2.toNatClampNeg)) x2.toNatClampNeg (σ.2.1 54 x1.toNatClampNeg)))) H := hP
  exact cx_vret cx hP hS hf dX8_swapSpots_26
set_option maxHeartbeats 4000000 in
set_option maxRecDepth 100000 in
theorem w_F_xX8_nextRow_106 {p : Program} {l : Launch} {e : Env} {s : State} {m : MethodId} {args : Array Value} {below : List Frame} {meth : Method} {c : Code} {D : va_G} {C : Nat → ClassId} {A adK adV : Nat → Nat} (hA : apA A 60) (cx : Cxx D C adK adV (fxA A 60) p s m args meth c cX8_nextRow 5 RX8 (some .boolean)) {res : (Int32 × St)} : ∀ (n : Nat), ∀ (x3 : Int32) (x4 : Int32) (σ : St) (H : Heap) (locs : List Loc) (ls : Array Slot), F_xX8_nextRow_106 n x3 x4 σ = some res → lv_has ls 5 [(0, .ref (A 52)), (3, .int x3), (4, .int x4)] → va_P D vwCl (wX A C σ) H → va_S (fxA A 60) s.heap H locs → W p l e rm_X8_nextRow s m args below meth c H locs 0 0 (MQ below (Qcx D (wX A C) (fxA A 60) (some (.int res.1)) res.2) args s 0 0 (fxA A 60)) (F0 m 106 ls []) := by
  obtain ⟨hx, hb, hml, hown, hts, hK, hr, hlk, hZ⟩ := id cx
  intro n
  induction n with
  | zero =>
    intro x3 x4 σ H locs ls hf hl hP hS
    exact absurd (show (none : Option (Int32 × St)) = some res from hf) (by intro h; cases h)
  | succ n ih =>
    intro x3 x4 σ H locs ls hf hl hP hS
    refine lv_iload_n hx hb dX8_nextRow_106 rfl (lv_at hl 1 rfl) ?_
    refine lv_iload hx hb dX8_nextRow_107 (lv_at hl 2 rfl) ?_
    refine lv_icmp_ge (tgt := 128) hx hb dX8_nextRow_109 (by decide) (fun c1 => ?_) (fun c1 => ?_)
    · have hf := (if_pos c1).symm.trans hf
      refine lv_iconst (v := 1) hx hb dX8_nextRow_128 (by decide) ?_
      exact cx_zret cx rfl hP hS hf dX8_nextRow_129
    · have hf := (if_neg c1).symm.trans hf
      refine lv_aload_n hx hb dX8_nextRow_112 rfl (lv_at hl 0 rfl) ?_
      refine lv_iload_n hx hb dX8_nextRow_113 rfl (lv_at hl 1 rfl) ?_
      refine lv_iload hx hb dX8_nextRow_114 (lv_at hl 2 rfl) ?_
      obtain ⟨σ_r2, h_r2, hf⟩ := bv_some hf
      refine cx_V (As := [.int x3, .int x4]) (rest := []) cx (ct_xX8_swapSpots l D C A adK adV hA h_r2) (cw_X8_118 hts ⟨Nat.le_of_ble_eq_true rfl, Nat.le_of_ble_eq_true rfl⟩) (va_recv hK hP (ci := 8) (q0 := 52) rfl (wX_52 A C _)) hP hS rfl hl.1 rfl (Nat.le_of_ble_eq_true rfl) dX8_nextRow_116 ⟨Nat.zero_le _, Nat.zero_le _⟩ (fun H locs hP hS => ?_)
      refine lv_iinc (v := (x3 + 1)) (lv' := [(3, .int (x3 + 1)), (0, .ref (A 52)), (4, .int x4)]) hx hb dX8_nextRow_119 hl (k := 1) rfl rfl (by decide) rfl (fun ls hl => ?_)
      refine lv_iinc (v := (x4 + (-1))) (lv' := [(4, .int (x4 + (-1))), (3, .int (x3 + 1)), (0, .ref (A 52))]) hx hb dX8_nextRow_122 hl (k := 2) rfl rfl (by decide) rfl (fun ls hl => ?_)
      refine lv_goto (tgt := 106) hx hb dX8_nextRow_125 (by decide) ?_
      exact ih _ _ _ _ _ _ hf (lv_sub hl [2, 1, 0] rfl) hP hS
set_option maxHeartbeats 4000000 in
set_option maxRecDepth 100000 in
theorem w_F_xX8_nextRow_83 {p : Program} {l : Launch} {e : Env} {s : State} {m : MethodId} {args : Array Value} {below : List Frame} {meth : Method} {c : Code} {D : va_G} {C : Nat → ClassId} {A adK adV : Nat → Nat} (hA : apA A 60) (cx : Cxx D C adK adV (fxA A 60) p s m args meth c cX8_nextRow 5 RX8 (some .boolean)) {res : (Int32 × St)} : ∀ (x1 : Int32) (x2 : Int32) (σ : St) (H : Heap) (locs : List Loc) (ls : Array Slot), F_xX8_nextRow_83 x1 x2 σ = some res → lv_has ls 5 [(0, .ref (A 52)), (1, .int x1), (2, .int x2)] → va_P D vwCl (wX A C σ) H → va_S (fxA A 60) s.heap H locs → W p l e rm_X8_nextRow s m args below meth c H locs 0 0 (MQ below (Qcx D (wX A C) (fxA A 60) (some (.int res.1)) res.2) args s 0 0 (fxA A 60)) (F0 m 83 ls []) := by
  obtain ⟨hx, hb, hml, hown, hts, hK, hr, hlk, hZ⟩ := id cx
  intro x1 x2 σ H locs ls hf hl hP hS
  refine lv_aload_n hx hb dX8_nextRow_83 rfl (lv_at hl 0 rfl) ?_
  refine lv_iload_n hx hb dX8_nextRow_84 rfl (lv_at hl 1 rfl) ?_
  refine lv_iload_n hx hb dX8_nextRow_85 rfl (lv_at hl 2 rfl) ?_
  obtain ⟨σ_r3, h_r3, hf⟩ := bv_some hf
  refine cx_V (As := [.int x1, .int x2]) (rest := []) cx (ct_xX8_swapSpots l D C A adK adV hA h_r3) (cw_X8_118 hts ⟨Nat.le_of_ble_eq_true rfl, Nat.le_of_ble_eq_true rfl⟩) (va_recv hK hP (ci := 8) (q0 := 52) rfl (wX_52 A C _)) hP hS rfl hl.1 rfl (Nat.le_of_ble_eq_true rfl) dX8_nextRow_86 ⟨Nat.zero_le _, Nat.zero_le _⟩ (fun H locs hP hS => ?_)
  refine lv_iload_n hx hb dX8_nextRow_89 rfl (lv_at hl 1 rfl) ?_
  refine lv_iconst (v := 1) hx hb dX8_nextRow_90 (by decide) ?_
  refine lv_iadd hx hb dX8_nextRow_91 ?_
  refine lv_istore_n (lv' := [(3, .int (x1 + 1)), (0, .ref (A 52)), (1, .int x1), (2, .int x2)]) hx hb dX8_nextRow_92 rfl hl (by decide) rfl (fun ls hl => ?_)
  refine lv_aload_n hx hb dX8_nextRow_93 rfl (lv_at hl 1 rfl) ?_
  refine gX_52_3 hx hb hts hown hK hP (v := (σ_r3.1 31)) rfl (hts _ kw_958) dX8_nextRow_94 ?_
  refine lv_bipush (v := 6) hx hb dX8_nextRow_97 (by decide) ?_
  refine va_mmin hx hb (hml.trans hl.1.symm) hown (hts _ kw_977) (hts _ kw_352) (hts _ kw_353) (hts _ kw_354) (Nat.le_of_ble_eq_true rfl) (Nat.le_of_ble_eq_true rfl) (Nat.zero_le _) (Nat.zero_le _) dX8_nextRow_99 ?_
  refine lv_iconst (v := 1) hx hb dX8_nextRow_102 (by decide) ?_
  refine lv_isub hx hb dX8_nextRow_103 ?_
  refine lv_istore (lv' := [(4, .int ((if 6 < (σ_r3.1 31) then 6 else (σ_r3.1 31)) - 1)), (3, .int (x1 + 1)), (0, .ref (A 52)), (1, .int x1), (2, .int x2)]) hx hb dX8_nextRow_104 hl (by decide) rfl (fun ls hl => ?_)
  exact w_F_xX8_nextRow_106 hA cx FU _ _ _ _ _ _ hf (lv_sub hl [2, 1, 0] rfl) hP hS
set_option maxHeartbeats 4000000 in
set_option maxRecDepth 100000 in
theorem w_F_xX8_nextRow_57 {p : Program} {l : Launch} {e : Env} {s : State} {m : MethodId} {args : Array Value} {below : List Frame} {meth : Method} {c : Code} {D : va_G} {C : Nat → ClassId} {A adK adV : Nat → Nat} (hA : apA A 60) (cx : Cxx D C adK adV (fxA A 60) p s m args meth c cX8_nextRow 5 RX8 (some .boolean)) {res : (Int32 × St)} : ∀ (n : Nat), ∀ (x1 : Int32) (x2 : Int32) (σ : St) (H : Heap) (locs : List Loc) (ls : Array Slot), F_xX8_nextRow_57 n x1 x2 σ = some res → lv_has ls 5 [(0, .ref (A 52)), (1, .int x1), (2, .int x2)] → va_P D vwCl (wX A C σ) H → va_S (fxA A 60) s.heap H locs → W p l e rm_X8_nextRow s m args below meth c H locs 0 0 (MQ below (Qcx D (wX A C) (fxA A 60) (some (.int res.1)) res.2) args s 0 0 (fxA A 60)) (F0 m 57 ls []) := by
  obtain ⟨hx, hb, hml, hown, hts, hK, hr, hlk, hZ⟩ := id cx
  intro n
  induction n with
  | zero =>
    intro x1 x2 σ H locs ls hf hl hP hS
    exact absurd (show (none : Option (Int32 × St)) = some res from hf) (by intro h; cases h)
  | succ n ih =>
    intro x1 x2 σ H locs ls hf hl hP hS
    refine lv_iload_n hx hb dX8_nextRow_57 rfl (lv_at hl 2 rfl) ?_
    refine lv_iload_n hx hb dX8_nextRow_58 rfl (lv_at hl 1 rfl) ?_
    refine lv_icmp_le (tgt := 83) hx hb dX8_nextRow_59 (by decide) (fun c4 => ?_) (fun c4 => ?_)
    · have hf := (if_pos c4).symm.trans hf
      exact w_F_xX8_nextRow_83 hA cx _ _ _ _ _ _ hf (lv_sub hl [0, 1, 2] rfl) hP hS
    · have hf := (if_neg c4).symm.trans hf
      refine lv_aload_n hx hb dX8_nextRow_62 rfl (lv_at hl 0 rfl) ?_
      refine gX_52_5 hx hb hts hown hK hP (hts _ kw_137) dX8_nextRow_63 ?_
      refine lv_iload_n hx hb dX8_nextRow_66 rfl (lv_at hl 2 rfl) ?_
      obtain ⟨z5, hf⟩ := gd_some hf
      refine gX_a54 hx hb hK hP (ib_in z5) (v := (σ.2.1 54 x2.toNatClampNeg)) rfl dX8_nextRow_67 ?_
      refine lv_aload_n hx hb dX8_nextRow_68 rfl (lv_at hl 0 rfl) ?_
      refine gX_52_5 hx hb hts hown hK hP (hts _ kw_137) dX8_nextRow_69 ?_
      refine lv_iload_n hx hb dX8_nextRow_72 rfl (lv_at hl 1 rfl) ?_
      obtain ⟨z6, hf⟩ := gd_some hf
      refine gX_a54 hx hb hK hP (ib_in z6) (v := (σ.2.1 54 x1.toNatClampNeg)) rfl dX8_nextRow_73 ?_
      refine lv_icmp_ge (tgt := 83) hx hb dX8_nextRow_74 (by decide) (fun c7 => ?_) (fun c7 => ?_)
      · have hf := (if_pos c7).symm.trans hf
        exact w_F_xX8_nextRow_83 hA cx _ _ _ _ _ _ hf (lv_sub hl [0, 1, 2] rfl) hP hS
      · have hf := (if_neg c7).symm.trans hf
        refine lv_iinc (v := (x2 + (-1))) (lv' := [(2, .int (x2 + (-1))), (0, .ref (A 52)), (1, .int x1)]) hx hb dX8_nextRow_77 hl (k := 2) rfl rfl (by decide) rfl (fun ls hl => ?_)
        refine lv_goto (tgt := 57) hx hb dX8_nextRow_80 (by decide) ?_
        exact ih _ _ _ _ _ _ hf (lv_sub hl [1, 2, 0] rfl) hP hS
set_option maxHeartbeats 4000000 in
set_option maxRecDepth 100000 in
theorem w_F_xX8_nextRow_39 {p : Program} {l : Launch} {e : Env} {s : State} {m : MethodId} {args : Array Value} {below : List Frame} {meth : Method} {c : Code} {D : va_G} {C : Nat → ClassId} {A adK adV : Nat → Nat} (hA : apA A 60) (cx : Cxx D C adK adV (fxA A 60) p s m args meth c cX8_nextRow 5 RX8 (some .boolean)) {res : (Int32 × St)} : ∀ (x1 : Int32) (σ : St) (H : Heap) (locs : List Loc) (ls : Array Slot), F_xX8_nextRow_39 x1 σ = some res → lv_has ls 5 [(0, .ref (A 52)), (1, .int x1)] → va_P D vwCl (wX A C σ) H → va_S (fxA A 60) s.heap H locs → W p l e rm_X8_nextRow s m args below meth c H locs 0 0 (MQ below (Qcx D (wX A C) (fxA A 60) (some (.int res.1)) res.2) args s 0 0 (fxA A 60)) (F0 m 39 ls []) := by
  obtain ⟨hx, hb, hml, hown, hts, hK, hr, hlk, hZ⟩ := id cx
  intro x1 σ H locs ls hf hl hP hS
  refine lv_iload_n hx hb dX8_nextRow_39 rfl (lv_at hl 1 rfl) ?_
  refine lv_if_ge (tgt := 45) hx hb dX8_nextRow_40 (by decide) (fun c8 => ?_) (fun c8 => ?_)
  · have hf := (if_pos c8).symm.trans hf
    refine lv_aload_n hx hb dX8_nextRow_45 rfl (lv_at hl 0 rfl) ?_
    refine gX_52_3 hx hb hts hown hK hP (v := (σ.1 31)) rfl (hts _ kw_958) dX8_nextRow_46 ?_
    refine lv_bipush (v := 6) hx hb dX8_nextRow_49 (by decide) ?_
    refine va_mmin hx hb (hml.trans hl.1.symm) hown (hts _ kw_977) (hts _ kw_352) (hts _ kw_353) (hts _ kw_354) (Nat.le_of_ble_eq_true rfl) (Nat.le_of_ble_eq_true rfl) (Nat.zero_le _) (Nat.zero_le _) dX8_nextRow_51 ?_
    refine lv_iconst (v := 1) hx hb dX8_nextRow_54 (by decide) ?_
    refine lv_isub hx hb dX8_nextRow_55 ?_
    refine lv_istore_n (lv' := [(2, .int ((if 6 < (σ.1 31) then 6 else (σ.1 31)) - 1)), (0, .ref (A 52)), (1, .int x1)]) hx hb dX8_nextRow_56 rfl hl (by decide) rfl (fun ls hl => ?_)
    exact w_F_xX8_nextRow_57 hA cx FU _ _ _ _ _ _ hf (lv_sub hl [1, 2, 0] rfl) hP hS
  · have hf := (if_neg c8).symm.trans hf
    refine lv_iconst (v := 0) hx hb dX8_nextRow_43 (by decide) ?_
    exact cx_zret cx rfl hP hS hf dX8_nextRow_44
set_option maxHeartbeats 4000000 in
set_option maxRecDepth 100000 in
theorem w_F_xX8_nextRow_12 {p : Program} {l : Launch} {e : Env} {s : State} {m : MethodId} {args : Array Value} {below : List Frame} {meth : Method} {c : Code} {D : va_G} {C : Nat → ClassId} {A adK adV : Nat → Nat} (hA : apA A 60) (cx : Cxx D C adK adV (fxA A 60) p s m args meth c cX8_nextRow 5 RX8 (some .boolean)) {res : (Int32 × St)} : ∀ (n : Nat), ∀ (x1 : Int32) (σ : St) (H : Heap) (locs : List Loc) (ls : Array Slot), F_xX8_nextRow_12 n x1 σ = some res → lv_has ls 5 [(0, .ref (A 52)), (1, .int x1)] → va_P D vwCl (wX A C σ) H → va_S (fxA A 60) s.heap H locs → W p l e rm_X8_nextRow s m args below meth c H locs 0 0 (MQ below (Qcx D (wX A C) (fxA A 60) (some (.int res.1)) res.2) args s 0 0 (fxA A 60)) (F0 m 12 ls []) := by
  obtain ⟨hx, hb, hml, hown, hts, hK, hr, hlk, hZ⟩ := id cx
  intro n
  induction n with
  | zero =>
    intro x1 σ H locs ls hf hl hP hS
    exact absurd (show (none : Option (Int32 × St)) = some res from hf) (by intro h; cases h)
  | succ n ih =>
    intro x1 σ H locs ls hf hl hP hS
    refine lv_iload_n hx hb dX8_nextRow_12 rfl (lv_at hl 1 rfl) ?_
    refine lv_if_lt (tgt := 39) hx hb dX8_nextRow_13 (by decide) (fun c9 => ?_) (fun c9 => ?_)
    · have hf := (if_pos c9).symm.trans hf
      exact w_F_xX8_nextRow_39 hA cx _ _ _ _ _ hf (lv_sub hl [0, 1] rfl) hP hS
    · have hf := (if_neg c9).symm.trans hf
      refine lv_aload_n hx hb dX8_nextRow_16 rfl (lv_at hl 0 rfl) ?_
      refine gX_52_5 hx hb hts hown hK hP (hts _ kw_137) dX8_nextRow_17 ?_
      refine lv_iload_n hx hb dX8_nextRow_20 rfl (lv_at hl 1 rfl) ?_
      obtain ⟨z10, hf⟩ := gd_some hf
      refine gX_a54 hx hb hK hP (ib_in z10) (v := (σ.2.1 54 x1.toNatClampNeg)) rfl dX8_nextRow_21 ?_
      refine lv_aload_n hx hb dX8_nextRow_22 rfl (lv_at hl 0 rfl) ?_
      refine gX_52_5 hx hb hts hown hK hP (hts _ kw_137) dX8_nextRow_23 ?_
      refine lv_iload_n hx hb dX8_nextRow_26 rfl (lv_at hl 1 rfl) ?_
      refine lv_iconst (v := 1) hx hb dX8_nextRow_27 (by decide) ?_
      refine lv_iadd hx hb dX8_nextRow_28 ?_
      obtain ⟨z11, hf⟩ := gd_some hf
      refine gX_a54 hx hb hK hP (ib_in z11) (v := (σ.2.1 54 (x1 + 1).toNatClampNeg)) rfl dX8_nextRow_29 ?_
      refine lv_icmp_le (tgt := 39) hx hb dX8_nextRow_30 (by decide) (fun c12 => ?_) (fun c12 => ?_)
      · have hf := (if_pos c12).symm.trans hf
        exact w_F_xX8_nextRow_39 hA cx _ _ _ _ _ hf (lv_sub hl [0, 1] rfl) hP hS
      · have hf := (if_neg c12).symm.trans hf
        refine lv_iinc (v := (x1 + (-1))) (lv' := [(1, .int (x1 + (-1))), (0, .ref (A 52))]) hx hb dX8_nextRow_33 hl (k := 1) rfl rfl (by decide) rfl (fun ls hl => ?_)
        refine lv_goto (tgt := 12) hx hb dX8_nextRow_36 (by decide) ?_
        exact ih _ _ _ _ _ hf (lv_sub hl [1, 0] rfl) hP hS
set_option maxHeartbeats 4000000 in
set_option maxRecDepth 100000 in
theorem ct_xX8_nextRow (l : Launch) (D : va_G) (C : Nat → ClassId) (A adK adV : Nat → Nat) (hA : apA A 60)  {σ : St} {res : (Int32 × St)} (hf : F_xX8_nextRow σ = some res) : Met l yX8_nextRow (Cond.code yX8_nextRow cX8_nextRow 5 (some .boolean) :: wsL_law) rm_X8_nextRow (Pcx D C (wX A C) adK adV (fxA A 60) [.ref (A 52)] σ) (Qcx D (wX A C) (fxA A 60) (some (.int res.1)) res.2) 0 0 (fxA A 60) := by
  refine Met.ofW (cc := cX8_nextRow) (maxL := 5) (ret := (some .boolean)) (by decide) rfl ?_
  intro p e s m args below meth c s₁ B hml hv
  obtain ⟨rfl, hP, hK, hZ⟩ := hv
  have cx : Cxx D C adK adV (fxA A 60) p s m _ meth c cX8_nextRow 5 RX8 (some .boolean) := ⟨B.exec, B.bytes, hml, findClass_of_methodNamed B.named, fun w h => atoms_spec (ws := Cond.code yX8_nextRow cX8_nextRow 5 (some .boolean) :: wsL_law) B.pre w (List.mem_cons_of_mem _ h), hK, B.returns, B.notSynchronized, hZ⟩
  obtain ⟨hx, hb, -, hown, hts, -, hr, hlk, -⟩ := id cx
  have hS : va_S (fxA A 60) s.heap s.heap [] := va_S.rf
  have hl := lv_entry ([.ref (A 52)]) (n := 5) (Nat.le_of_ble_eq_true rfl)
  rw [lg_entry_eq]
  generalize (lg_sl ([.ref (A 52)]) ++ List.replicate (5 - (lg_sl ([.ref (A 52)])).length) Slot.unset).toArray = ls at hl ⊢
  have hl : lv_has ls 5 [(0, .ref (A 52))] := hl
  show W p l e rm_X8_nextRow s m _ below meth c s.heap [] 0 0 _ _
  refine lv_aload_n hx hb dX8_nextRow_0 rfl (lv_at hl 0 rfl) ?_
  refine gX_52_3 hx hb hts hown hK hP (v := (σ.1 31)) rfl (hts _ kw_958) dX8_nextRow_1 ?_
  refine lv_bipush (v := 6) hx hb dX8_nextRow_4 (by decide) ?_
  refine va_mmin hx hb (hml.trans hl.1.symm) hown (hts _ kw_977) (hts _ kw_352) (hts _ kw_353) (hts _ kw_354) (Nat.le_of_ble_eq_true rfl) (Nat.le_of_ble_eq_true rfl) (Nat.zero_le _) (Nat.zero_le _) dX8_nextRow_6 ?_
  refine lv_iconst (v := 2) hx hb dX8_nextRow_9 (by decide) ?_
  refine lv_isub hx hb dX8_nextRow_10 ?_
  refine lv_istore_n (lv' := [(1, .int ((if 6 < (σ.1 31) then 6 else (σ.1 31)) - 2)), (0, .ref (A 52))]) hx hb dX8_nextRow_11 rfl hl (by decide) rfl (fun ls hl => ?_)
  exact w_F_xX8_nextRow_12 hA cx FU _ _ _ _ _ hf (lv_sub hl [1, 0] rfl) hP hS
set_option maxHeartbeats 4000000 in
set_option maxRecDepth 100000 in
theorem w_F_xX8_layRowv2_2 {p : Program} {l : Launch} {e : Env} {s : State} {m : MethodId} {args : Array Value} {below : List Frame} {meth : Method} {c : Code} {D : va_G} {C : Nat → ClassId} {A adK adV : Nat → Nat} (hA : apA A 60) (cx : Cxx D C adK adV (fxA A 60) p s m args meth c cX8_layRow 3 RX8 none) {res : St} : ∀ (n : Nat), ∀ (x2 : Int32) (σ : St) (H : Heap) (locs : List Loc) (ls : Array Slot), F_xX8_layRowv2_2 n x2 σ = some res → lv_has ls 3 [(0, .ref (A 52)), (1, .ref (A 54)), (2, .int x2)] → va_P D vwCl (wX A C σ) H → va_S (fxA A 60) s.heap H locs → W p l e rm_X8_layRow s m args below meth c H locs 0 0 (MQ below (Qcx D (wX A C) (fxA A 60) none res) args s 0 0 (fxA A 60)) (F0 m 2 ls []) := by
  obtain ⟨hx, hb, hml, hown, hts, hK, hr, hlk, hZ⟩ := id cx
  intro n
  induction n with
  | zero =>
    intro x2 σ H locs ls hf hl hP hS
    exact absurd (show (none : Option St) = some res from hf) (by intro h; cases h)
  | succ n ih =>
    intro x2 σ H locs ls hf hl hP hS
    refine lv_iload_n hx hb dX8_layRow_2 rfl (lv_at hl 2 rfl) ?_
    refine lv_aload_n hx hb dX8_layRow_3 rfl (lv_at hl 0 rfl) ?_
    refine gX_52_3 hx hb hts hown hK hP (v := (σ.1 31)) rfl (hts _ kw_958) dX8_layRow_4 ?_
    refine lv_icmp_ge (tgt := 44) hx hb dX8_layRow_7 (by decide) (fun c1 => ?_) (fun c1 => ?_)
    · have hf := (if_pos c1).symm.trans hf
      exact cx_vret cx hP hS hf dX8_layRow_44
    · have hf := (if_neg c1).symm.trans hf
      refine lv_iload_n hx hb dX8_layRow_10 rfl (lv_at hl 2 rfl) ?_
      refine lv_bipush (v := 6) hx hb dX8_layRow_11 (by decide) ?_
      refine lv_icmp_ge (tgt := 44) hx hb dX8_layRow_13 (by decide) (fun c2 => ?_) (fun c2 => ?_)
      · have hf := (if_pos c2).symm.trans hf
        exact cx_vret cx hP hS hf dX8_layRow_44
      · have hf := (if_neg c2).symm.trans hf
        refine lv_iload_n hx hb dX8_layRow_16 rfl (lv_at hl 2 rfl) ?_
        refine lv_aload_n hx hb dX8_layRow_17 rfl (lv_at hl 1 rfl) ?_
        refine va_alen hx hb hK hP 54 1 (wX_54 A C _) rfl (v := 6) rfl dX8_layRow_18 ?_
        refine lv_icmp_ge (tgt := 44) hx hb dX8_layRow_19 (by decide) (fun c3 => ?_) (fun c3 => ?_)
        · have hf := (if_pos c3).symm.trans hf
          exact cx_vret cx hP hS hf dX8_layRow_44
        · have hf := (if_neg c3).symm.trans hf
          refine lv_aload_n hx hb dX8_layRow_22 rfl (lv_at hl 0 rfl) ?_
          refine gX_52_1 hx hb hts hown hK hP (hts _ kw_140) dX8_layRow_23 ?_
          refine lv_aload_n hx hb dX8_layRow_26 rfl (lv_at hl 0 rfl) ?_
          refine gX_52_4 hx hb hts hown hK hP (hts _ kw_136) dX8_layRow_27 ?_
          refine lv_iload_n hx hb dX8_layRow_30 rfl (lv_at hl 2 rfl) ?_
          obtain ⟨z4, hf⟩ := gd_some hf
          refine gX_a53 hx hb hK hP (ib_in z4) (v := (σ.2.1 53 x2.toNatClampNeg)) rfl dX8_layRow_31 ?_
          refine lv_aload_n hx hb dX8_layRow_32 rfl (lv_at hl 1 rfl) ?_
          refine lv_iload_n hx hb dX8_layRow_33 rfl (lv_at hl 2 rfl) ?_
          refine gX_a54 hx hb hK hP (ib_in z4) (v := (σ.2.1 54 x2.toNatClampNeg)) rfl dX8_layRow_34 ?_
          obtain ⟨σ_r5, h_r5, hf⟩ := bv_some hf
          refine cx_V (As := [.int (σ.2.1 53 x2.toNatClampNeg), .int (σ.2.1 54 x2.toNatClampNeg)]) (rest := []) cx (ct_xX3_put l D C A adK adV hA h_r5) (cw_X8_109 hts ⟨Nat.le_of_ble_eq_true rfl, Nat.le_of_ble_eq_true rfl⟩) (va_recv hK hP (ci := 3) (q0 := 25) rfl (wX_25 A C _)) hP hS rfl hl.1 rfl (Nat.le_of_ble_eq_true rfl) dX8_layRow_35 ⟨Nat.zero_le _, Nat.zero_le _⟩ (fun H locs hP hS => ?_)
          refine lv_iinc (v := (x2 + 1)) (lv' := [(2, .int (x2 + 1)), (0, .ref (A 52)), (1, .ref (A 54))]) hx hb dX8_layRow_38 hl (k := 2) rfl rfl (by decide) rfl (fun ls hl => ?_)
          refine lv_goto (tgt := 2) hx hb dX8_layRow_41 (by decide) ?_
          exact ih _ _ _ _ _ hf (lv_sub hl [1, 2, 0] rfl) hP hS
set_option maxHeartbeats 4000000 in
set_option maxRecDepth 100000 in
theorem ct_xX8_layRowv2 (l : Launch) (D : va_G) (C : Nat → ClassId) (A adK adV : Nat → Nat) (hA : apA A 60)  {σ : St} {res : St} (hf : F_xX8_layRowv2 σ = some res) : Met l yX8_layRow (Cond.code yX8_layRow cX8_layRow 3 none :: wsL_law) rm_X8_layRow (Pcx D C (wX A C) adK adV (fxA A 60) [.ref (A 52), .ref (A 54)] σ) (Qcx D (wX A C) (fxA A 60) none res) 0 0 (fxA A 60) := by
  refine Met.ofW (cc := cX8_layRow) (maxL := 3) (ret := none) (by decide) rfl ?_
  intro p e s m args below meth c s₁ B hml hv
  obtain ⟨rfl, hP, hK, hZ⟩ := hv
  have cx : Cxx D C adK adV (fxA A 60) p s m _ meth c cX8_layRow 3 RX8 none := ⟨B.exec, B.bytes, hml, findClass_of_methodNamed B.named, fun w h => atoms_spec (ws := Cond.code yX8_layRow cX8_layRow 3 none :: wsL_law) B.pre w (List.mem_cons_of_mem _ h), hK, B.returns, B.notSynchronized, hZ⟩
  obtain ⟨hx, hb, -, hown, hts, -, hr, hlk, -⟩ := id cx
  have hS : va_S (fxA A 60) s.heap s.heap [] := va_S.rf
  have hl := lv_entry ([.ref (A 52), .ref (A 54)]) (n := 3) (Nat.le_of_ble_eq_true rfl)
  rw [lg_entry_eq]
  generalize (lg_sl ([.ref (A 52), .ref (A 54)]) ++ List.replicate (3 - (lg_sl ([.ref (A 52), .ref (A 54)])).length) Slot.unset).toArray = ls at hl ⊢
  have hl : lv_has ls 3 [(0, .ref (A 52)), (1, .ref (A 54))] := hl
  show W p l e rm_X8_layRow s m _ below meth c s.heap [] 0 0 _ _
  refine lv_iconst (v := 0) hx hb dX8_layRow_0 (by decide) ?_
  refine lv_istore_n (lv' := [(2, .int 0), (0, .ref (A 52)), (1, .ref (A 54))]) hx hb dX8_layRow_1 rfl hl (by decide) rfl (fun ls hl => ?_)
  exact w_F_xX8_layRowv2_2 hA cx FU _ _ _ _ _ hf (lv_sub hl [1, 2, 0] rfl) hP hS
set_option maxHeartbeats 4000000 in
set_option maxRecDepth 100000 in
theorem w_F_xX8_layBestRow_67 {p : Program} {l : Launch} {e : Env} {s : State} {m : MethodId} {args : Array Value} {below : List Frame} {meth : Method} {c : Code} {D : va_G} {C : Nat → ClassId} {A adK adV : Nat → Nat} (hA : apA A 60) (cx : Cxx D C adK adV (fxA A 60) p s m args meth c cX8_layBestRow 5 RX8 (some .int)) {res : (Int32 × St)} {b6 : Int32 → Int32 → Int32 → St → Option (Int32 × St)} (hb6 : ∀ (x1 : Int32) (x2 : Int32) (x3 : Int32) (σ : St) (H : Heap) (locs : List Loc) (ls : Array Slot), b6 x1 x2 x3 σ = some res → lv_has ls 5 [(0, .ref (A 52)), (1, .int x1), (2, .int x2), (3, .int x3)] → va_P D vwCl (wX A C σ) H → va_S (fxA A 60) s.heap H locs → W p l e rm_X8_layBestRow s m args below meth c H locs 0 0 (MQ below (Qcx D (wX A C) (fxA A 60) (some (.int res.1)) res.2) args s 0 0 (fxA A 60)) (F0 m 6 ls [])) : ∀ (x1 : Int32) (x3 : Int32) (σ : St) (H : Heap) (locs : List Loc) (ls : Array Slot), F_xX8_layBestRow_67 b6 x1 x3 σ = some res → lv_has ls 5 [(0, .ref (A 52)), (1, .int x1), (3, .int x3)] → va_P D vwCl (wX A C σ) H → va_S (fxA A 60) s.heap H locs → W p l e rm_X8_layBestRow s m args below meth c H locs 0 0 (MQ below (Qcx D (wX A C) (fxA A 60) (some (.int res.1)) res.2) args s 0 0 (fxA A 60)) (F0 m 67 ls []) := by
  obtain ⟨hx, hb, hml, hown, hts, hK, hr, hlk, hZ⟩ := id cx
  intro x1 x3 σ H locs ls hf hl hP hS
  refine lv_aload_n hx hb dX8_layBestRow_67 rfl (lv_at hl 0 rfl) ?_
  obtain ⟨⟨r2, σ_r2⟩, h_r2, hf⟩ := bd_some hf
  refine cx_V (As := []) (rest := []) cx (ct_xX8_nextRow l D C A adK adV hA h_r2) (cw_X8_105 hts ⟨Nat.le_of_ble_eq_true rfl, Nat.le_of_ble_eq_true rfl⟩) (va_recv hK hP (ci := 8) (q0 := 52) rfl (wX_52 A C _)) hP hS rfl hl.1 rfl (Nat.le_of_ble_eq_true rfl) dX8_layBestRow_68 ⟨Nat.zero_le _, Nat.zero_le _⟩ (fun H locs hP hS => ?_)
  refine lv_istore_n (lv' := [(2, .int r2), (0, .ref (A 52)), (1, .int x1), (3, .int x3)]) hx hb dX8_layBestRow_71 rfl hl (by decide) rfl (fun ls hl => ?_)
  refine lv_iinc (v := (x3 + 1)) (lv' := [(3, .int (x3 + 1)), (2, .int r2), (0, .ref (A 52)), (1, .int x1)]) hx hb dX8_layBestRow_72 hl (k := 3) rfl rfl (by decide) rfl (fun ls hl => ?_)
  refine lv_goto (tgt := 6) hx hb dX8_layBestRow_75 (by decide) ?_
  exact hb6 _ _ _ _ _ _ _ hf (lv_sub hl [2, 3, 1, 0] rfl) hP hS
set_option maxHeartbeats 4000000 in
set_option maxRecDepth 100000 in
theorem w_F_xX8_layBestRow_49 {p : Program} {l : Launch} {e : Env} {s : State} {m : MethodId} {args : Array Value} {below : List Frame} {meth : Method} {c : Code} {D : va_G} {C : Nat → ClassId} {A adK adV : Nat → Nat} (hA : apA A 60) (cx : Cxx D C adK adV (fxA A 60) p s m args meth c cX8_layBestRow 5 RX8 (some .int)) {res : (Int32 × St)} {b6 : Int32 → Int32 → Int32 → St → Option (Int32 × St)} (hb6 : ∀ (x1 : Int32) (x2 : Int32) (x3 : Int32) (σ : St) (H : Heap) (locs : List Loc) (ls : Array Slot), b6 x1 x2 x3 σ = some res → lv_has ls 5 [(0, .ref (A 52)), (1, .int x1), (2, .int x2), (3, .int x3)] → va_P D vwCl (wX A C σ) H → va_S (fxA A 60) s.heap H locs → W p l e rm_X8_layBestRow s m args below meth c H locs 0 0 (MQ below (Qcx D (wX A C) (fxA A 60) (some (.int res.1)) res.2) args s 0 0 (fxA A 60)) (F0 m 6 ls [])) : ∀ (x3 : Int32) (x4 : Int32) (σ : St) (H : Heap) (locs : List Loc) (ls : Array Slot), F_xX8_layBestRow_49 b6 x3 x4 σ = some res → lv_has ls 5 [(0, .ref (A 52)), (3, .int x3), (4, .int x4)] → va_P D vwCl (wX A C σ) H → va_S (fxA A 60) s.heap H locs → W p l e rm_X8_layBestRow s m args below meth c H locs 0 0 (MQ below (Qcx D (wX A C) (fxA A 60) (some (.int res.1)) res.2) args s 0 0 (fxA A 60)) (F0 m 49 ls []) := by
  obtain ⟨hx, hb, hml, hown, hts, hK, hr, hlk, hZ⟩ := id cx
  intro x3 x4 σ H locs ls hf hl hP hS
  refine lv_iload hx hb dX8_layBestRow_49 (lv_at hl 2 rfl) ?_
  refine lv_istore_n (lv' := [(1, .int x4), (0, .ref (A 52)), (3, .int x3), (4, .int x4)]) hx hb dX8_layBestRow_51 rfl hl (by decide) rfl (fun ls hl => ?_)
  refine lv_aload_n hx hb dX8_layBestRow_52 rfl (lv_at hl 1 rfl) ?_
  refine gX_52_5 hx hb hts hown hK hP (hts _ kw_137) dX8_layBestRow_53 ?_
  refine lv_iconst (v := 0) hx hb dX8_layBestRow_56 (by decide) ?_
  refine lv_aload_n hx hb dX8_layBestRow_57 rfl (lv_at hl 1 rfl) ?_
  refine gX_52_6 hx hb hts hown hK hP (hts _ kw_138) dX8_layBestRow_58 ?_
  refine lv_iconst (v := 0) hx hb dX8_layBestRow_61 (by decide) ?_
  refine lv_bipush (v := 6) hx hb dX8_layBestRow_62 (by decide) ?_
  refine va_copyi hx hb (hml.trans hl.1.symm) hown (hts _ kw_967) (hts _ kw_529) (hts _ kw_530) (hts _ kw_531) hK hP (wX_D hA C _) hS 54 55 1 1 (wX_54 A C _) (wX_55 A C _) rfl rfl rfl (by decide) (by decide) (by decide) (by decide) (by decide) (fun _ _ => rfl) (Nat.le_of_ble_eq_true rfl) (by decide) dX8_layBestRow_64 (fun H locs hP _ hS => ?_)
  have hP : va_P D vwCl (wX A C (sA σ 55 (va_cpy (σ.2.1 54) (σ.2.1 55) 0 0 6))) H := hP
  exact w_F_xX8_layBestRow_67 hA cx hb6 _ _ _ _ _ _ hf (lv_sub hl [1, 0, 2] rfl) hP hS
set_option maxHeartbeats 4000000 in
set_option maxRecDepth 100000 in
theorem w_F_xX8_layBestRow_78 {p : Program} {l : Launch} {e : Env} {s : State} {m : MethodId} {args : Array Value} {below : List Frame} {meth : Method} {c : Code} {D : va_G} {C : Nat → ClassId} {A adK adV : Nat → Nat} (hA : apA A 60) (cx : Cxx D C adK adV (fxA A 60) p s m args meth c cX8_layBestRow 5 RX8 (some .int)) {res : (Int32 × St)} : ∀ (x1 : Int32) (σ : St) (H : Heap) (locs : List Loc) (ls : Array Slot), F_xX8_layBestRow_78 x1 σ = some res → lv_has ls 5 [(0, .ref (A 52)), (1, .int x1)] → va_P D vwCl (wX A C σ) H → va_S (fxA A 60) s.heap H locs → W p l e rm_X8_layBestRow s m args below meth c H locs 0 0 (MQ below (Qcx D (wX A C) (fxA A 60) (some (.int res.1)) res.2) args s 0 0 (fxA A 60)) (F0 m 78 ls []) := by
  obtain ⟨hx, hb, hml, hown, hts, hK, hr, hlk, hZ⟩ := id cx
  intro x1 σ H locs ls hf hl hP hS
  refine lv_aload_n hx hb dX8_layBestRow_78 rfl (lv_at hl 0 rfl) ?_
  refine lv_aload_n hx hb dX8_layBestRow_79 rfl (lv_at hl 0 rfl) ?_
  refine gX_52_6 hx hb hts hown hK hP (hts _ kw_138) dX8_layBestRow_80 ?_
  obtain ⟨σ_r1, h_r1, hf⟩ := bv_some hf
  refine cx_V (As := [.ref (A 55)]) (rest := []) cx (ct_xX8_layRow l D C A adK adV hA h_r1) (cw_X8_95 hts ⟨Nat.le_of_ble_eq_true rfl, Nat.le_of_ble_eq_true rfl⟩) (va_recv hK hP (ci := 8) (q0 := 52) rfl (wX_52 A C _)) hP hS rfl hl.1 rfl (Nat.le_of_ble_eq_true rfl) dX8_layBestRow_83 ⟨Nat.zero_le _, Nat.zero_le _⟩ (fun H locs hP hS => ?_)
  refine lv_iload_n hx hb dX8_layBestRow_86 rfl (lv_at hl 1 rfl) ?_
  exact cx_iret cx hP hS hf dX8_layBestRow_87
set_option maxHeartbeats 4000000 in
set_option maxRecDepth 100000 in
theorem w_F_xX8_layBestRow_6 {p : Program} {l : Launch} {e : Env} {s : State} {m : MethodId} {args : Array Value} {below : List Frame} {meth : Method} {c : Code} {D : va_G} {C : Nat → ClassId} {A adK adV : Nat → Nat} (hA : apA A 60) (cx : Cxx D C adK adV (fxA A 60) p s m args meth c cX8_layBestRow 5 RX8 (some .int)) {res : (Int32 × St)} : ∀ (n : Nat), ∀ (x1 : Int32) (x2 : Int32) (x3 : Int32) (σ : St) (H : Heap) (locs : List Loc) (ls : Array Slot), F_xX8_layBestRow_6 n x1 x2 x3 σ = some res → lv_has ls 5 [(0, .ref (A 52)), (1, .int x1), (2, .int x2), (3, .int x3)] → va_P D vwCl (wX A C σ) H → va_S (fxA A 60) s.heap H locs → W p l e rm_X8_layBestRow s m args below meth c H locs 0 0 (MQ below (Qcx D (wX A C) (fxA A 60) (some (.int res.1)) res.2) args s 0 0 (fxA A 60)) (F0 m 6 ls []) := by
  obtain ⟨hx, hb, hml, hown, hts, hK, hr, hlk, hZ⟩ := id cx
  intro n
  induction n with
  | zero =>
    intro x1 x2 x3 σ H locs ls hf hl hP hS
    exact absurd (show (none : Option (Int32 × St)) = some res from hf) (by intro h; cases h)
  | succ n ih =>
    intro x1 x2 x3 σ H locs ls hf hl hP hS
    refine lv_iload_n hx hb dX8_layBestRow_6 rfl (lv_at hl 3 rfl) ?_
    refine lv_sipush (v := 720) hx hb dX8_layBestRow_7 (by decide) ?_
    refine lv_icmp_ge (tgt := 78) hx hb dX8_layBestRow_10 (by decide) (fun c3 => ?_) (fun c3 => ?_)
    · have hf := (if_pos c3).symm.trans hf
      exact w_F_xX8_layBestRow_78 hA cx _ _ _ _ _ hf (lv_sub hl [0, 1] rfl) hP hS
    · have hf := (if_neg c3).symm.trans hf
      refine lv_iload_n hx hb dX8_layBestRow_13 rfl (lv_at hl 2 rfl) ?_
      refine lv_if_eq (tgt := 78) hx hb dX8_layBestRow_14 (by decide) (fun c4 => ?_) (fun c4 => ?_)
      · have hf := (if_pos c4).symm.trans hf
        exact w_F_xX8_layBestRow_78 hA cx _ _ _ _ _ hf (lv_sub hl [0, 1] rfl) hP hS
      · have hf := (if_neg c4).symm.trans hf
        refine lv_aload_n hx hb dX8_layBestRow_17 rfl (lv_at hl 0 rfl) ?_
        refine lv_aload_n hx hb dX8_layBestRow_18 rfl (lv_at hl 0 rfl) ?_
        refine gX_52_5 hx hb hts hown hK hP (hts _ kw_137) dX8_layBestRow_19 ?_
        obtain ⟨σ_r5, h_r5, hf⟩ := bv_some hf
        refine cx_V (As := [.ref (A 54)]) (rest := []) cx (ct_xX8_layRowv2 l D C A adK adV hA h_r5) (cw_X8_95 hts ⟨Nat.le_of_ble_eq_true rfl, Nat.le_of_ble_eq_true rfl⟩) (va_recv hK hP (ci := 8) (q0 := 52) rfl (wX_52 A C _)) hP hS rfl hl.1 rfl (Nat.le_of_ble_eq_true rfl) dX8_layBestRow_22 ⟨Nat.zero_le _, Nat.zero_le _⟩ (fun H locs hP hS => ?_)
        refine lv_aload_n hx hb dX8_layBestRow_25 rfl (lv_at hl 0 rfl) ?_
        refine gX_52_1 hx hb hts hown hK hP (hts _ kw_140) dX8_layBestRow_26 ?_
        refine lv_aload_n hx hb dX8_layBestRow_29 rfl (lv_at hl 0 rfl) ?_
        refine gX_52_2 hx hb hts hown hK hP (hts _ kw_141) dX8_layBestRow_30 ?_
        obtain ⟨⟨r6, σ_r6⟩, h_r6, hf⟩ := bd_some hf
        refine cx_V (As := [.ref (A 37)]) (rest := []) cx (ct_xX3_timeOf l D C A adK adV hA h_r6) (cw_X8_59 hts ⟨Nat.le_of_ble_eq_true rfl, Nat.le_of_ble_eq_true rfl⟩) (va_recv hK hP (ci := 3) (q0 := 25) rfl (wX_25 A C _)) hP hS rfl hl.1 rfl (Nat.le_of_ble_eq_true rfl) dX8_layBestRow_33 ⟨Nat.zero_le _, Nat.zero_le _⟩ (fun H locs hP hS => ?_)
        refine lv_istore (lv' := [(4, .int r6), (0, .ref (A 52)), (1, .int x1), (2, .int x2), (3, .int x3)]) hx hb dX8_layBestRow_36 hl (by decide) rfl (fun ls hl => ?_)
        refine lv_iload_n hx hb dX8_layBestRow_38 rfl (lv_at hl 2 rfl) ?_
        refine lv_iconst (v := (-1)) hx hb dX8_layBestRow_39 (by decide) ?_
        refine lv_icmp_eq (tgt := 49) hx hb dX8_layBestRow_40 (by decide) (fun c7 => ?_) (fun c7 => ?_)
        · have hf := (if_pos c7).symm.trans hf
          exact w_F_xX8_layBestRow_49 hA cx ih _ _ _ _ _ _ hf (lv_sub hl [1, 4, 0] rfl) hP hS
        · have hf := (if_neg c7).symm.trans hf
          refine lv_iload hx hb dX8_layBestRow_43 (lv_at hl 0 rfl) ?_
          refine lv_iload_n hx hb dX8_layBestRow_45 rfl (lv_at hl 2 rfl) ?_
          refine lv_icmp_ge (tgt := 67) hx hb dX8_layBestRow_46 (by decide) (fun c8 => ?_) (fun c8 => ?_)
          · have hf := (if_pos c8).symm.trans hf
            exact w_F_xX8_layBestRow_67 hA cx ih _ _ _ _ _ _ hf (lv_sub hl [1, 2, 4] rfl) hP hS
          · have hf := (if_neg c8).symm.trans hf
            exact w_F_xX8_layBestRow_49 hA cx ih _ _ _ _ _ _ hf (lv_sub hl [1, 4, 0] rfl) hP hS
set_option maxHeartbeats 4000000 in
set_option maxRecDepth 100000 in
theorem ct_xX8_layBestRow (l : Launch) (D : va_G) (C : Nat → ClassId) (A adK adV : Nat → Nat) (hA : apA A 60)  {σ : St} {res : (Int32 × St)} (hf : F_xX8_layBestRow σ = some res) : Met l yX8_layBestRow (Cond.code yX8_layBestRow cX8_layBestRow 5 (some .int) :: wsL_law) rm_X8_layBestRow (Pcx D C (wX A C) adK adV (fxA A 60) [.ref (A 52)] σ) (Qcx D (wX A C) (fxA A 60) (some (.int res.1)) res.2) 0 0 (fxA A 60) := by
  refine Met.ofW (cc := cX8_layBestRow) (maxL := 5) (ret := (some .int)) (by decide) rfl ?_
  intro p e s m args below meth c s₁ B hml hv
  obtain ⟨rfl, hP, hK, hZ⟩ := hv
  have cx : Cxx D C adK adV (fxA A 60) p s m _ meth c cX8_layBestRow 5 RX8 (some .int) := ⟨B.exec, B.bytes, hml, findClass_of_methodNamed B.named, fun w h => atoms_spec (ws := Cond.code yX8_layBestRow cX8_layBestRow 5 (some .int) :: wsL_law) B.pre w (List.mem_cons_of_mem _ h), hK, B.returns, B.notSynchronized, hZ⟩
  obtain ⟨hx, hb, -, hown, hts, -, hr, hlk, -⟩ := id cx
  have hS : va_S (fxA A 60) s.heap s.heap [] := va_S.rf
  have hl := lv_entry ([.ref (A 52)]) (n := 5) (Nat.le_of_ble_eq_true rfl)
  rw [lg_entry_eq]
  generalize (lg_sl ([.ref (A 52)]) ++ List.replicate (5 - (lg_sl ([.ref (A 52)])).length) Slot.unset).toArray = ls at hl ⊢
  have hl : lv_has ls 5 [(0, .ref (A 52))] := hl
  show W p l e rm_X8_layBestRow s m _ below meth c s.heap [] 0 0 _ _
  refine lv_iconst (v := (-1)) hx hb dX8_layBestRow_0 (by decide) ?_
  refine lv_istore_n (lv' := [(1, .int (-1)), (0, .ref (A 52))]) hx hb dX8_layBestRow_1 rfl hl (by decide) rfl (fun ls hl => ?_)
  refine lv_iconst (v := 1) hx hb dX8_layBestRow_2 (by decide) ?_
  refine lv_istore_n (lv' := [(2, .int 1), (1, .int (-1)), (0, .ref (A 52))]) hx hb dX8_layBestRow_3 rfl hl (by decide) rfl (fun ls hl => ?_)
  refine lv_iconst (v := 0) hx hb dX8_layBestRow_4 (by decide) ?_
  refine lv_istore_n (lv' := [(3, .int 0), (2, .int 1), (1, .int (-1)), (0, .ref (A 52))]) hx hb dX8_layBestRow_5 rfl hl (by decide) rfl (fun ls hl => ?_)
  exact w_F_xX8_layBestRow_6 hA cx FU _ _ _ _ _ _ _ hf (lv_sub hl [3, 2, 1, 0] rfl) hP hS
set_option maxHeartbeats 4000000 in
set_option maxRecDepth 100000 in
theorem w_F_xJ7_fill_53178v2_5 {p : Program} {l : Launch} {e : Env} {s : State} {m : MethodId} {args : Array Value} {below : List Frame} {meth : Method} {c : Code} {D : va_G} {C : Nat → ClassId} {A adK adV : Nat → Nat} (hA : apA A 60) (cx : Cxx D C adK adV (fxA A 60) p s m args meth c cJ7_fill_53178 4 RJ7 none) {res : St} : ∀ (n : Nat), ∀ (x1 : Int32) (x2 : Int32) (x3 : Int32) (σ : St) (H : Heap) (locs : List Loc) (ls : Array Slot), F_xJ7_fill_53178v2_5 n x1 x2 x3 σ = some res → lv_has ls 4 [(0, .ref (A 43)), (1, .int x1), (2, .int x2), (3, .int x3)] → va_P D vwCl (wX A C σ) H → va_S (fxA A 60) s.heap H locs → W p l e rm_J7_fill_53178 s m args below meth c H locs 0 0 (MQ below (Qcx D (wX A C) (fxA A 60) none res) args s 0 0 (fxA A 60)) (F0 m 5 ls []) := by
  obtain ⟨hx, hb, hml, hown, hts, hK, hr, hlk, hZ⟩ := id cx
  intro n
  induction n with
  | zero =>
    intro x1 x2 x3 σ H locs ls hf hl hP hS
    exact absurd (show (none : Option St) = some res from hf) (by intro h; cases h)
  | succ n ih =>
    intro x1 x2 x3 σ H locs ls hf hl hP hS
    refine lv_iload_n hx hb dJ7_fill_53178_5 rfl (lv_at hl 2 rfl) ?_
    refine lv_iload_n hx hb dJ7_fill_53178_6 rfl (lv_at hl 3 rfl) ?_
    refine lv_icmp_ge (tgt := 20) hx hb dJ7_fill_53178_7 (by decide) (fun c1 => ?_) (fun c1 => ?_)
    · have hf := (if_pos c1).symm.trans hf
      exact cx_vret cx hP hS hf dJ7_fill_53178_20
    · have hf := (if_neg c1).symm.trans hf
      refine lv_aload_n hx hb dJ7_fill_53178_10 rfl (lv_at hl 0 rfl) ?_
      refine lv_iload_n hx hb dJ7_fill_53178_11 rfl (lv_at hl 2 rfl) ?_
      refine lv_iload_n hx hb dJ7_fill_53178_12 rfl (lv_at hl 1 rfl) ?_
      obtain ⟨z2, hf⟩ := gd_some hf
      refine pX_a43 hx hb hK hP hA hS (ib_in z2) dJ7_fill_53178_13 (fun H locs hP hS => ?_)
      refine lv_iinc (v := (x2 + 1)) (lv' := [(2, .int (x2 + 1)), (0, .ref (A 43)), (1, .int x1), (3, .int x3)]) hx hb dJ7_fill_53178_14 hl (k := 2) rfl rfl (by decide) rfl (fun ls hl => ?_)
      refine lv_goto (tgt := 5) hx hb dJ7_fill_53178_17 (by decide) ?_
      have hP : va_P D vwCl (wX A C (sA σ 43 (upd (σ.2.1 43) x2.toNatClampNeg x1))) H := hP
      exact ih _ _ _ _ _ _ _ hf (lv_sub hl [1, 2, 0, 3] rfl) hP hS
set_option maxHeartbeats 4000000 in
set_option maxRecDepth 100000 in
theorem ct_xJ7_fill_53178v2 (l : Launch) (D : va_G) (C : Nat → ClassId) (A adK adV : Nat → Nat) (hA : apA A 60) {x1 : Int32} {σ : St} {res : St} (hf : F_xJ7_fill_53178v2 x1 σ = some res) : Met l yJ7_fill_53178 (Cond.code yJ7_fill_53178 cJ7_fill_53178 4 none :: wsL_law) rm_J7_fill_53178 (Pcx D C (wX A C) adK adV (fxA A 60) [.ref (A 43), .int x1] σ) (Qcx D (wX A C) (fxA A 60) none res) 0 0 (fxA A 60) := by
  refine Met.ofW (cc := cJ7_fill_53178) (maxL := 4) (ret := none) (by decide) rfl ?_
  intro p e s m args below meth c s₁ B hml hv
  obtain ⟨rfl, hP, hK, hZ⟩ := hv
  have cx : Cxx D C adK adV (fxA A 60) p s m _ meth c cJ7_fill_53178 4 RJ7 none := ⟨B.exec, B.bytes, hml, findClass_of_methodNamed B.named, fun w h => atoms_spec (ws := Cond.code yJ7_fill_53178 cJ7_fill_53178 4 none :: wsL_law) B.pre w (List.mem_cons_of_mem _ h), hK, B.returns, B.notSynchronized, hZ⟩
  obtain ⟨hx, hb, -, hown, hts, -, hr, hlk, -⟩ := id cx
  have hS : va_S (fxA A 60) s.heap s.heap [] := va_S.rf
  have hl := lv_entry ([.ref (A 43), .int x1]) (n := 4) (Nat.le_of_ble_eq_true rfl)
  rw [lg_entry_eq]
  generalize (lg_sl ([.ref (A 43), .int x1]) ++ List.replicate (4 - (lg_sl ([.ref (A 43), .int x1])).length) Slot.unset).toArray = ls at hl ⊢
  have hl : lv_has ls 4 [(0, .ref (A 43)), (1, .int x1)] := hl
  show W p l e rm_J7_fill_53178 s m _ below meth c s.heap [] 0 0 _ _
  refine lv_iconst (v := 0) hx hb dJ7_fill_53178_0 (by decide) ?_
  refine lv_istore_n (lv' := [(2, .int 0), (0, .ref (A 43)), (1, .int x1)]) hx hb dJ7_fill_53178_1 rfl hl (by decide) rfl (fun ls hl => ?_)
  refine lv_aload_n hx hb dJ7_fill_53178_2 rfl (lv_at hl 1 rfl) ?_
  refine va_alen hx hb hK hP 43 1 (wX_43 A C _) rfl (v := 40) rfl dJ7_fill_53178_3 ?_
  refine lv_istore_n (lv' := [(3, .int 40), (2, .int 0), (0, .ref (A 43)), (1, .int x1)]) hx hb dJ7_fill_53178_4 rfl hl (by decide) rfl (fun ls hl => ?_)
  exact w_F_xJ7_fill_53178v2_5 hA cx FU _ _ _ _ _ _ _ hf (lv_sub hl [2, 3, 1, 0] rfl) hP hS
set_option maxHeartbeats 4000000 in
set_option maxRecDepth 100000 in
theorem w_F_xJ7_fill_53178v3_5 {p : Program} {l : Launch} {e : Env} {s : State} {m : MethodId} {args : Array Value} {below : List Frame} {meth : Method} {c : Code} {D : va_G} {C : Nat → ClassId} {A adK adV : Nat → Nat} (hA : apA A 60) (cx : Cxx D C adK adV (fxA A 60) p s m args meth c cJ7_fill_53178 4 RJ7 none) {res : St} : ∀ (n : Nat), ∀ (x1 : Int32) (x2 : Int32) (x3 : Int32) (σ : St) (H : Heap) (locs : List Loc) (ls : Array Slot), F_xJ7_fill_53178v3_5 n x1 x2 x3 σ = some res → lv_has ls 4 [(0, .ref (A 44)), (1, .int x1), (2, .int x2), (3, .int x3)] → va_P D vwCl (wX A C σ) H → va_S (fxA A 60) s.heap H locs → W p l e rm_J7_fill_53178 s m args below meth c H locs 0 0 (MQ below (Qcx D (wX A C) (fxA A 60) none res) args s 0 0 (fxA A 60)) (F0 m 5 ls []) := by
  obtain ⟨hx, hb, hml, hown, hts, hK, hr, hlk, hZ⟩ := id cx
  intro n
  induction n with
  | zero =>
    intro x1 x2 x3 σ H locs ls hf hl hP hS
    exact absurd (show (none : Option St) = some res from hf) (by intro h; cases h)
  | succ n ih =>
    intro x1 x2 x3 σ H locs ls hf hl hP hS
    refine lv_iload_n hx hb dJ7_fill_53178_5 rfl (lv_at hl 2 rfl) ?_
    refine lv_iload_n hx hb dJ7_fill_53178_6 rfl (lv_at hl 3 rfl) ?_
    refine lv_icmp_ge (tgt := 20) hx hb dJ7_fill_53178_7 (by decide) (fun c1 => ?_) (fun c1 => ?_)
    · have hf := (if_pos c1).symm.trans hf
      exact cx_vret cx hP hS hf dJ7_fill_53178_20
    · have hf := (if_neg c1).symm.trans hf
      refine lv_aload_n hx hb dJ7_fill_53178_10 rfl (lv_at hl 0 rfl) ?_
      refine lv_iload_n hx hb dJ7_fill_53178_11 rfl (lv_at hl 2 rfl) ?_
      refine lv_iload_n hx hb dJ7_fill_53178_12 rfl (lv_at hl 1 rfl) ?_
      obtain ⟨z2, hf⟩ := gd_some hf
      refine pX_a44 hx hb hK hP hA hS (ib_in z2) dJ7_fill_53178_13 (fun H locs hP hS => ?_)
      refine lv_iinc (v := (x2 + 1)) (lv' := [(2, .int (x2 + 1)), (0, .ref (A 44)), (1, .int x1), (3, .int x3)]) hx hb dJ7_fill_53178_14 hl (k := 2) rfl rfl (by decide) rfl (fun ls hl => ?_)
      refine lv_goto (tgt := 5) hx hb dJ7_fill_53178_17 (by decide) ?_
      have hP : va_P D vwCl (wX A C (sA σ 44 (upd (σ.2.1 44) x2.toNatClampNeg x1))) H := hP
      exact ih _ _ _ _ _ _ _ hf (lv_sub hl [1, 2, 0, 3] rfl) hP hS
set_option maxHeartbeats 4000000 in
set_option maxRecDepth 100000 in
theorem ct_xJ7_fill_53178v3 (l : Launch) (D : va_G) (C : Nat → ClassId) (A adK adV : Nat → Nat) (hA : apA A 60) {x1 : Int32} {σ : St} {res : St} (hf : F_xJ7_fill_53178v3 x1 σ = some res) : Met l yJ7_fill_53178 (Cond.code yJ7_fill_53178 cJ7_fill_53178 4 none :: wsL_law) rm_J7_fill_53178 (Pcx D C (wX A C) adK adV (fxA A 60) [.ref (A 44), .int x1] σ) (Qcx D (wX A C) (fxA A 60) none res) 0 0 (fxA A 60) := by
  refine Met.ofW (cc := cJ7_fill_53178) (maxL := 4) (ret := none) (by decide) rfl ?_
  intro p e s m args below meth c s₁ B hml hv
  obtain ⟨rfl, hP, hK, hZ⟩ := hv
  have cx : Cxx D C adK adV (fxA A 60) p s m _ meth c cJ7_fill_53178 4 RJ7 none := ⟨B.exec, B.bytes, hml, findClass_of_methodNamed B.named, fun w h => atoms_spec (ws := Cond.code yJ7_fill_53178 cJ7_fill_53178 4 none :: wsL_law) B.pre w (List.mem_cons_of_mem _ h), hK, B.returns, B.notSynchronized, hZ⟩
  obtain ⟨hx, hb, -, hown, hts, -, hr, hlk, -⟩ := id cx
  have hS : va_S (fxA A 60) s.heap s.heap [] := va_S.rf
  have hl := lv_entry ([.ref (A 44), .int x1]) (n := 4) (Nat.le_of_ble_eq_true rfl)
  rw [lg_entry_eq]
  generalize (lg_sl ([.ref (A 44), .int x1]) ++ List.replicate (4 - (lg_sl ([.ref (A 44), .int x1])).length) Slot.unset).toArray = ls at hl ⊢
  have hl : lv_has ls 4 [(0, .ref (A 44)), (1, .int x1)] := hl
  show W p l e rm_J7_fill_53178 s m _ below meth c s.heap [] 0 0 _ _
  refine lv_iconst (v := 0) hx hb dJ7_fill_53178_0 (by decide) ?_
  refine lv_istore_n (lv' := [(2, .int 0), (0, .ref (A 44)), (1, .int x1)]) hx hb dJ7_fill_53178_1 rfl hl (by decide) rfl (fun ls hl => ?_)
  refine lv_aload_n hx hb dJ7_fill_53178_2 rfl (lv_at hl 1 rfl) ?_
  refine va_alen hx hb hK hP 44 1 (wX_44 A C _) rfl (v := 40) rfl dJ7_fill_53178_3 ?_
  refine lv_istore_n (lv' := [(3, .int 40), (2, .int 0), (0, .ref (A 44)), (1, .int x1)]) hx hb dJ7_fill_53178_4 rfl hl (by decide) rfl (fun ls hl => ?_)
  exact w_F_xJ7_fill_53178v3_5 hA cx FU _ _ _ _ _ _ _ hf (lv_sub hl [2, 3, 1, 0] rfl) hP hS
set_option maxHeartbeats 4000000 in
set_option maxRecDepth 100000 in
theorem w_F_xJ7_fill_53178v4_5 {p : Program} {l : Launch} {e : Env} {s : State} {m : MethodId} {args : Array Value} {below : List Frame} {meth : Method} {c : Code} {D : va_G} {C : Nat → ClassId} {A adK adV : Nat → Nat} (hA : apA A 60) (cx : Cxx D C adK adV (fxA A 60) p s m args meth c cJ7_fill_53178 4 RJ7 none) {res : St} : ∀ (n : Nat), ∀ (x1 : Int32) (x2 : Int32) (x3 : Int32) (σ : St) (H : Heap) (locs : List Loc) (ls : Array Slot), F_xJ7_fill_53178v4_5 n x1 x2 x3 σ = some res → lv_has ls 4 [(0, .ref (A 45)), (1, .int x1), (2, .int x2), (3, .int x3)] → va_P D vwCl (wX A C σ) H → va_S (fxA A 60) s.heap H locs → W p l e rm_J7_fill_53178 s m args below meth c H locs 0 0 (MQ below (Qcx D (wX A C) (fxA A 60) none res) args s 0 0 (fxA A 60)) (F0 m 5 ls []) := by
  obtain ⟨hx, hb, hml, hown, hts, hK, hr, hlk, hZ⟩ := id cx
  intro n
  induction n with
  | zero =>
    intro x1 x2 x3 σ H locs ls hf hl hP hS
    exact absurd (show (none : Option St) = some res from hf) (by intro h; cases h)
  | succ n ih =>
    intro x1 x2 x3 σ H locs ls hf hl hP hS
    refine lv_iload_n hx hb dJ7_fill_53178_5 rfl (lv_at hl 2 rfl) ?_
    refine lv_iload_n hx hb dJ7_fill_53178_6 rfl (lv_at hl 3 rfl) ?_
    refine lv_icmp_ge (tgt := 20) hx hb dJ7_fill_53178_7 (by decide) (fun c1 => ?_) (fun c1 => ?_)
    · have hf := (if_pos c1).symm.trans hf
      exact cx_vret cx hP hS hf dJ7_fill_53178_20
    · have hf := (if_neg c1).symm.trans hf
      refine lv_aload_n hx hb dJ7_fill_53178_10 rfl (lv_at hl 0 rfl) ?_
      refine lv_iload_n hx hb dJ7_fill_53178_11 rfl (lv_at hl 2 rfl) ?_
      refine lv_iload_n hx hb dJ7_fill_53178_12 rfl (lv_at hl 1 rfl) ?_
      obtain ⟨z2, hf⟩ := gd_some hf
      refine pX_a45 hx hb hK hP hA hS (ib_in z2) dJ7_fill_53178_13 (fun H locs hP hS => ?_)
      refine lv_iinc (v := (x2 + 1)) (lv' := [(2, .int (x2 + 1)), (0, .ref (A 45)), (1, .int x1), (3, .int x3)]) hx hb dJ7_fill_53178_14 hl (k := 2) rfl rfl (by decide) rfl (fun ls hl => ?_)
      refine lv_goto (tgt := 5) hx hb dJ7_fill_53178_17 (by decide) ?_
      have hP : va_P D vwCl (wX A C (sA σ 45 (upd (σ.2.1 45) x2.toNatClampNeg x1))) H := hP
      exact ih _ _ _ _ _ _ _ hf (lv_sub hl [1, 2, 0, 3] rfl) hP hS
set_option maxHeartbeats 4000000 in
set_option maxRecDepth 100000 in
theorem ct_xJ7_fill_53178v4 (l : Launch) (D : va_G) (C : Nat → ClassId) (A adK adV : Nat → Nat) (hA : apA A 60) {x1 : Int32} {σ : St} {res : St} (hf : F_xJ7_fill_53178v4 x1 σ = some res) : Met l yJ7_fill_53178 (Cond.code yJ7_fill_53178 cJ7_fill_53178 4 none :: wsL_law) rm_J7_fill_53178 (Pcx D C (wX A C) adK adV (fxA A 60) [.ref (A 45), .int x1] σ) (Qcx D (wX A C) (fxA A 60) none res) 0 0 (fxA A 60) := by
  refine Met.ofW (cc := cJ7_fill_53178) (maxL := 4) (ret := none) (by decide) rfl ?_
  intro p e s m args below meth c s₁ B hml hv
  obtain ⟨rfl, hP, hK, hZ⟩ := hv
  have cx : Cxx D C adK adV (fxA A 60) p s m _ meth c cJ7_fill_53178 4 RJ7 none := ⟨B.exec, B.bytes, hml, findClass_of_methodNamed B.named, fun w h => atoms_spec (ws := Cond.code yJ7_fill_53178 cJ7_fill_53178 4 none :: wsL_law) B.pre w (List.mem_cons_of_mem _ h), hK, B.returns, B.notSynchronized, hZ⟩
  obtain ⟨hx, hb, -, hown, hts, -, hr, hlk, -⟩ := id cx
  have hS : va_S (fxA A 60) s.heap s.heap [] := va_S.rf
  have hl := lv_entry ([.ref (A 45), .int x1]) (n := 4) (Nat.le_of_ble_eq_true rfl)
  rw [lg_entry_eq]
  generalize (lg_sl ([.ref (A 45), .int x1]) ++ List.replicate (4 - (lg_sl ([.ref (A 45), .int x1])).length) Slot.unset).toArray = ls at hl ⊢
  have hl : lv_has ls 4 [(0, .ref (A 45)), (1, .int x1)] := hl
  show W p l e rm_J7_fill_53178 s m _ below meth c s.heap [] 0 0 _ _
  refine lv_iconst (v := 0) hx hb dJ7_fill_53178_0 (by decide) ?_
  refine lv_istore_n (lv' := [(2, .int 0), (0, .ref (A 45)), (1, .int x1)]) hx hb dJ7_fill_53178_1 rfl hl (by decide) rfl (fun ls hl => ?_)
  refine lv_aload_n hx hb dJ7_fill_53178_2 rfl (lv_at hl 1 rfl) ?_
  refine va_alen hx hb hK hP 45 1 (wX_45 A C _) rfl (v := 40) rfl dJ7_fill_53178_3 ?_
  refine lv_istore_n (lv' := [(3, .int 40), (2, .int 0), (0, .ref (A 45)), (1, .int x1)]) hx hb dJ7_fill_53178_4 rfl hl (by decide) rfl (fun ls hl => ?_)
  exact w_F_xJ7_fill_53178v4_5 hA cx FU _ _ _ _ _ _ _ hf (lv_sub hl [2, 3, 1, 0] rfl) hP hS
set_option maxHeartbeats 4000000 in
set_option maxRecDepth 100000 in
theorem w_F_xJ7_fill_53178v5_5 {p : Program} {l : Launch} {e : Env} {s : State} {m : MethodId} {args : Array Value} {below : List Frame} {meth : Method} {c : Code} {D : va_G} {C : Nat → ClassId} {A adK adV : Nat → Nat} (hA : apA A 60) (cx : Cxx D C adK adV (fxA A 60) p s m args meth c cJ7_fill_53178 4 RJ7 none) {res : St} : ∀ (n : Nat), ∀ (x1 : Int32) (x2 : Int32) (x3 : Int32) (σ : St) (H : Heap) (locs : List Loc) (ls : Array Slot), F_xJ7_fill_53178v5_5 n x1 x2 x3 σ = some res → lv_has ls 4 [(0, .ref (A 48)), (1, .int x1), (2, .int x2), (3, .int x3)] → va_P D vwCl (wX A C σ) H → va_S (fxA A 60) s.heap H locs → W p l e rm_J7_fill_53178 s m args below meth c H locs 0 0 (MQ below (Qcx D (wX A C) (fxA A 60) none res) args s 0 0 (fxA A 60)) (F0 m 5 ls []) := by
  obtain ⟨hx, hb, hml, hown, hts, hK, hr, hlk, hZ⟩ := id cx
  intro n
  induction n with
  | zero =>
    intro x1 x2 x3 σ H locs ls hf hl hP hS
    exact absurd (show (none : Option St) = some res from hf) (by intro h; cases h)
  | succ n ih =>
    intro x1 x2 x3 σ H locs ls hf hl hP hS
    refine lv_iload_n hx hb dJ7_fill_53178_5 rfl (lv_at hl 2 rfl) ?_
    refine lv_iload_n hx hb dJ7_fill_53178_6 rfl (lv_at hl 3 rfl) ?_
    refine lv_icmp_ge (tgt := 20) hx hb dJ7_fill_53178_7 (by decide) (fun c1 => ?_) (fun c1 => ?_)
    · have hf := (if_pos c1).symm.trans hf
      exact cx_vret cx hP hS hf dJ7_fill_53178_20
    · have hf := (if_neg c1).symm.trans hf
      refine lv_aload_n hx hb dJ7_fill_53178_10 rfl (lv_at hl 0 rfl) ?_
      refine lv_iload_n hx hb dJ7_fill_53178_11 rfl (lv_at hl 2 rfl) ?_
      refine lv_iload_n hx hb dJ7_fill_53178_12 rfl (lv_at hl 1 rfl) ?_
      obtain ⟨z2, hf⟩ := gd_some hf
      refine pX_a48 hx hb hK hP hA hS (ib_in z2) dJ7_fill_53178_13 (fun H locs hP hS => ?_)
      refine lv_iinc (v := (x2 + 1)) (lv' := [(2, .int (x2 + 1)), (0, .ref (A 48)), (1, .int x1), (3, .int x3)]) hx hb dJ7_fill_53178_14 hl (k := 2) rfl rfl (by decide) rfl (fun ls hl => ?_)
      refine lv_goto (tgt := 5) hx hb dJ7_fill_53178_17 (by decide) ?_
      have hP : va_P D vwCl (wX A C (sA σ 48 (upd (σ.2.1 48) x2.toNatClampNeg x1))) H := hP
      exact ih _ _ _ _ _ _ _ hf (lv_sub hl [1, 2, 0, 3] rfl) hP hS
set_option maxHeartbeats 4000000 in
set_option maxRecDepth 100000 in
theorem ct_xJ7_fill_53178v5 (l : Launch) (D : va_G) (C : Nat → ClassId) (A adK adV : Nat → Nat) (hA : apA A 60) {x1 : Int32} {σ : St} {res : St} (hf : F_xJ7_fill_53178v5 x1 σ = some res) : Met l yJ7_fill_53178 (Cond.code yJ7_fill_53178 cJ7_fill_53178 4 none :: wsL_law) rm_J7_fill_53178 (Pcx D C (wX A C) adK adV (fxA A 60) [.ref (A 48), .int x1] σ) (Qcx D (wX A C) (fxA A 60) none res) 0 0 (fxA A 60) := by
  refine Met.ofW (cc := cJ7_fill_53178) (maxL := 4) (ret := none) (by decide) rfl ?_
  intro p e s m args below meth c s₁ B hml hv
  obtain ⟨rfl, hP, hK, hZ⟩ := hv
  have cx : Cxx D C adK adV (fxA A 60) p s m _ meth c cJ7_fill_53178 4 RJ7 none := ⟨B.exec, B.bytes, hml, findClass_of_methodNamed B.named, fun w h => atoms_spec (ws := Cond.code yJ7_fill_53178 cJ7_fill_53178 4 none :: wsL_law) B.pre w (List.mem_cons_of_mem _ h), hK, B.returns, B.notSynchronized, hZ⟩
  obtain ⟨hx, hb, -, hown, hts, -, hr, hlk, -⟩ := id cx
  have hS : va_S (fxA A 60) s.heap s.heap [] := va_S.rf
  have hl := lv_entry ([.ref (A 48), .int x1]) (n := 4) (Nat.le_of_ble_eq_true rfl)
  rw [lg_entry_eq]
  generalize (lg_sl ([.ref (A 48), .int x1]) ++ List.replicate (4 - (lg_sl ([.ref (A 48), .int x1])).length) Slot.unset).toArray = ls at hl ⊢
  have hl : lv_has ls 4 [(0, .ref (A 48)), (1, .int x1)] := hl
  show W p l e rm_J7_fill_53178 s m _ below meth c s.heap [] 0 0 _ _
  refine lv_iconst (v := 0) hx hb dJ7_fill_53178_0 (by decide) ?_
  refine lv_istore_n (lv' := [(2, .int 0), (0, .ref (A 48)), (1, .int x1)]) hx hb dJ7_fill_53178_1 rfl hl (by decide) rfl (fun ls hl => ?_)
  refine lv_aload_n hx hb dJ7_fill_53178_2 rfl (lv_at hl 1 rfl) ?_
  refine va_alen hx hb hK hP 48 1 (wX_48 A C _) rfl (v := 40) rfl dJ7_fill_53178_3 ?_
  refine lv_istore_n (lv' := [(3, .int 40), (2, .int 0), (0, .ref (A 48)), (1, .int x1)]) hx hb dJ7_fill_53178_4 rfl hl (by decide) rfl (fun ls hl => ?_)
  exact w_F_xJ7_fill_53178v5_5 hA cx FU _ _ _ _ _ _ _ hf (lv_sub hl [2, 3, 1, 0] rfl) hP hS
set_option maxHeartbeats 4000000 in
set_option maxRecDepth 100000 in
theorem w_F_xJ7_fill_53178v6_5 {p : Program} {l : Launch} {e : Env} {s : State} {m : MethodId} {args : Array Value} {below : List Frame} {meth : Method} {c : Code} {D : va_G} {C : Nat → ClassId} {A adK adV : Nat → Nat} (hA : apA A 60) (cx : Cxx D C adK adV (fxA A 60) p s m args meth c cJ7_fill_53178 4 RJ7 none) {res : St} : ∀ (n : Nat), ∀ (x1 : Int32) (x2 : Int32) (x3 : Int32) (σ : St) (H : Heap) (locs : List Loc) (ls : Array Slot), F_xJ7_fill_53178v6_5 n x1 x2 x3 σ = some res → lv_has ls 4 [(0, .ref (A 49)), (1, .int x1), (2, .int x2), (3, .int x3)] → va_P D vwCl (wX A C σ) H → va_S (fxA A 60) s.heap H locs → W p l e rm_J7_fill_53178 s m args below meth c H locs 0 0 (MQ below (Qcx D (wX A C) (fxA A 60) none res) args s 0 0 (fxA A 60)) (F0 m 5 ls []) := by
  obtain ⟨hx, hb, hml, hown, hts, hK, hr, hlk, hZ⟩ := id cx
  intro n
  induction n with
  | zero =>
    intro x1 x2 x3 σ H locs ls hf hl hP hS
    exact absurd (show (none : Option St) = some res from hf) (by intro h; cases h)
  | succ n ih =>
    intro x1 x2 x3 σ H locs ls hf hl hP hS
    refine lv_iload_n hx hb dJ7_fill_53178_5 rfl (lv_at hl 2 rfl) ?_
    refine lv_iload_n hx hb dJ7_fill_53178_6 rfl (lv_at hl 3 rfl) ?_
    refine lv_icmp_ge (tgt := 20) hx hb dJ7_fill_53178_7 (by decide) (fun c1 => ?_) (fun c1 => ?_)
    · have hf := (if_pos c1).symm.trans hf
      exact cx_vret cx hP hS hf dJ7_fill_53178_20
    · have hf := (if_neg c1).symm.trans hf
      refine lv_aload_n hx hb dJ7_fill_53178_10 rfl (lv_at hl 0 rfl) ?_
      refine lv_iload_n hx hb dJ7_fill_53178_11 rfl (lv_at hl 2 rfl) ?_
      refine lv_iload_n hx hb dJ7_fill_53178_12 rfl (lv_at hl 1 rfl) ?_
      obtain ⟨z2, hf⟩ := gd_some hf
      refine pX_a49 hx hb hK hP hA hS (ib_in z2) dJ7_fill_53178_13 (fun H locs hP hS => ?_)
      refine lv_iinc (v := (x2 + 1)) (lv' := [(2, .int (x2 + 1)), (0, .ref (A 49)), (1, .int x1), (3, .int x3)]) hx hb dJ7_fill_53178_14 hl (k := 2) rfl rfl (by decide) rfl (fun ls hl => ?_)
      refine lv_goto (tgt := 5) hx hb dJ7_fill_53178_17 (by decide) ?_
      have hP : va_P D vwCl (wX A C (sA σ 49 (upd (σ.2.1 49) x2.toNatClampNeg x1))) H := hP
      exact ih _ _ _ _ _ _ _ hf (lv_sub hl [1, 2, 0, 3] rfl) hP hS
set_option maxHeartbeats 4000000 in
set_option maxRecDepth 100000 in
theorem ct_xJ7_fill_53178v6 (l : Launch) (D : va_G) (C : Nat → ClassId) (A adK adV : Nat → Nat) (hA : apA A 60) {x1 : Int32} {σ : St} {res : St} (hf : F_xJ7_fill_53178v6 x1 σ = some res) : Met l yJ7_fill_53178 (Cond.code yJ7_fill_53178 cJ7_fill_53178 4 none :: wsL_law) rm_J7_fill_53178 (Pcx D C (wX A C) adK adV (fxA A 60) [.ref (A 49), .int x1] σ) (Qcx D (wX A C) (fxA A 60) none res) 0 0 (fxA A 60) := by
  refine Met.ofW (cc := cJ7_fill_53178) (maxL := 4) (ret := none) (by decide) rfl ?_
  intro p e s m args below meth c s₁ B hml hv
  obtain ⟨rfl, hP, hK, hZ⟩ := hv
  have cx : Cxx D C adK adV (fxA A 60) p s m _ meth c cJ7_fill_53178 4 RJ7 none := ⟨B.exec, B.bytes, hml, findClass_of_methodNamed B.named, fun w h => atoms_spec (ws := Cond.code yJ7_fill_53178 cJ7_fill_53178 4 none :: wsL_law) B.pre w (List.mem_cons_of_mem _ h), hK, B.returns, B.notSynchronized, hZ⟩
  obtain ⟨hx, hb, -, hown, hts, -, hr, hlk, -⟩ := id cx
  have hS : va_S (fxA A 60) s.heap s.heap [] := va_S.rf
  have hl := lv_entry ([.ref (A 49), .int x1]) (n := 4) (Nat.le_of_ble_eq_true rfl)
  rw [lg_entry_eq]
  generalize (lg_sl ([.ref (A 49), .int x1]) ++ List.replicate (4 - (lg_sl ([.ref (A 49), .int x1])).length) Slot.unset).toArray = ls at hl ⊢
  have hl : lv_has ls 4 [(0, .ref (A 49)), (1, .int x1)] := hl
  show W p l e rm_J7_fill_53178 s m _ below meth c s.heap [] 0 0 _ _
  refine lv_iconst (v := 0) hx hb dJ7_fill_53178_0 (by decide) ?_
  refine lv_istore_n (lv' := [(2, .int 0), (0, .ref (A 49)), (1, .int x1)]) hx hb dJ7_fill_53178_1 rfl hl (by decide) rfl (fun ls hl => ?_)
  refine lv_aload_n hx hb dJ7_fill_53178_2 rfl (lv_at hl 1 rfl) ?_
  refine va_alen hx hb hK hP 49 1 (wX_49 A C _) rfl (v := 40) rfl dJ7_fill_53178_3 ?_
  refine lv_istore_n (lv' := [(3, .int 40), (2, .int 0), (0, .ref (A 49)), (1, .int x1)]) hx hb dJ7_fill_53178_4 rfl hl (by decide) rfl (fun ls hl => ?_)
  exact w_F_xJ7_fill_53178v6_5 hA cx FU _ _ _ _ _ _ _ hf (lv_sub hl [2, 3, 1, 0] rfl) hP hS
set_option maxHeartbeats 4000000 in
set_option maxRecDepth 100000 in
theorem ct_xX7_meet (l : Launch) (D : va_G) (C : Nat → ClassId) (A adK adV : Nat → Nat) (hA : apA A 60) {x1 : Int32} {x2 : Int32} {σ : St} {res : St} (hf : F_xX7_meet x1 x2 σ = some res) : Met l yX7_meet (Cond.code yX7_meet cX7_meet 5 none :: wsL_law) rm_X7_meet (Pcx D C (wX A C) adK adV (fxA A 60) [.ref (A 41), .int x1, .int x2, .ref (A 25)] σ) (Qcx D (wX A C) (fxA A 60) none res) 0 0 (fxA A 60) := by
  refine Met.ofW (cc := cX7_meet) (maxL := 5) (ret := none) (by decide) rfl ?_
  intro p e s m args below meth c s₁ B hml hv
  obtain ⟨rfl, hP, hK, hZ⟩ := hv
  have cx : Cxx D C adK adV (fxA A 60) p s m _ meth c cX7_meet 5 RX7 none := ⟨B.exec, B.bytes, hml, findClass_of_methodNamed B.named, fun w h => atoms_spec (ws := Cond.code yX7_meet cX7_meet 5 none :: wsL_law) B.pre w (List.mem_cons_of_mem _ h), hK, B.returns, B.notSynchronized, hZ⟩
  obtain ⟨hx, hb, -, hown, hts, -, hr, hlk, -⟩ := id cx
  have hS : va_S (fxA A 60) s.heap s.heap [] := va_S.rf
  have hl := lv_entry ([.ref (A 41), .int x1, .int x2, .ref (A 25)]) (n := 5) (Nat.le_of_ble_eq_true rfl)
  rw [lg_entry_eq]
  generalize (lg_sl ([.ref (A 41), .int x1, .int x2, .ref (A 25)]) ++ List.replicate (5 - (lg_sl ([.ref (A 41), .int x1, .int x2, .ref (A 25)])).length) Slot.unset).toArray = ls at hl ⊢
  have hl : lv_has ls 5 [(0, .ref (A 41)), (1, .int x1), (2, .int x2), (3, .ref (A 25))] := hl
  show W p l e rm_X7_meet s m _ below meth c s.heap [] 0 0 _ _
  refine lv_iload_n hx hb dX7_meet_0 rfl (lv_at hl 1 rfl) ?_
  refine lv_if_lt (tgt := 10) hx hb dX7_meet_1 (by decide) (fun c1 => ?_) (fun c1 => ?_)
  · have hf := (if_pos c1).symm.trans hf
    exact cx_vret cx hP hS hf dX7_meet_10
  · have hf := (if_neg c1).symm.trans hf
    refine lv_iload_n hx hb dX7_meet_4 rfl (lv_at hl 1 rfl) ?_
    refine lv_bipush (v := 40) hx hb dX7_meet_5 (by decide) ?_
    refine lv_icmp_lt (tgt := 11) hx hb dX7_meet_7 (by decide) (fun c2 => ?_) (fun c2 => ?_)
    · have hf := (if_pos c2).symm.trans hf
      refine lv_aload_n hx hb dX7_meet_11 rfl (lv_at hl 3 rfl) ?_
      refine lv_iload_n hx hb dX7_meet_12 rfl (lv_at hl 1 rfl) ?_
      refine lv_aload_n hx hb dX7_meet_13 rfl (lv_at hl 0 rfl) ?_
      refine gX_41_5 hx hb hts hown hK hP (v := (σ.1 28)) rfl (hts _ kw_695) dX7_meet_14 ?_
      obtain ⟨⟨r3, σ_r3⟩, h_r3, hf⟩ := bd_some hf
      refine cx_V (As := [.int x1, .int (σ.1 28)]) (rest := []) cx (ct_xX3_waitFor l D C A adK adV hA h_r3) (cw_X7_118 hts ⟨Nat.le_of_ble_eq_true rfl, Nat.le_of_ble_eq_true rfl⟩) (va_recv hK hP (ci := 3) (q0 := 25) rfl (wX_25 A C _)) hP hS rfl hl.1 rfl (Nat.le_of_ble_eq_true rfl) dX7_meet_17 ⟨Nat.zero_le _, Nat.zero_le _⟩ (fun H locs hP hS => ?_)
      refine lv_istore (lv' := [(4, .int r3), (0, .ref (A 41)), (1, .int x1), (2, .int x2), (3, .ref (A 25))]) hx hb dX7_meet_20 hl (by decide) rfl (fun ls hl => ?_)
      refine lv_aload_n hx hb dX7_meet_22 rfl (lv_at hl 1 rfl) ?_
      refine gX_41_11 hx hb hts hown hK hP (hts _ kw_125) dX7_meet_23 ?_
      refine lv_iload_n hx hb dX7_meet_26 rfl (lv_at hl 2 rfl) ?_
      refine lv_dup2_11 hx hb dX7_meet_27 rfl rfl ?_
      obtain ⟨z4, hf⟩ := gd_some hf
      refine gX_a45 hx hb hK hP (ib_in z4) (v := (σ_r3.2.1 45 x1.toNatClampNeg)) rfl dX7_meet_28 ?_
      refine lv_iload hx hb dX7_meet_29 (lv_at hl 0 rfl) ?_
      refine lv_iadd hx hb dX7_meet_31 ?_
      refine pX_a45 hx hb hK hP hA hS (ib_in z4) dX7_meet_32 (fun H locs hP hS => ?_)
      refine lv_aload_n hx hb dX7_meet_33 rfl (lv_at hl 1 rfl) ?_
      refine lv_dup hx hb dX7_meet_34 rfl ?_
      refine gX_41_5 hx hb hts hown hK hP (v := (σ_r3.1 28)) rfl (hts _ kw_695) dX7_meet_35 ?_
      refine lv_iload hx hb dX7_meet_38 (lv_at hl 0 rfl) ?_
      refine lv_iconst (v := 1) hx hb dX7_meet_40 (by decide) ?_
      refine lv_iadd hx hb dX7_meet_41 ?_
      refine lv_iadd hx hb dX7_meet_42 ?_
      refine pX_41_5 hx hb hts hown hK hP hA hS (hts _ kw_695) dX7_meet_43 (fun H locs hP hS => ?_)
      refine lv_aload_n hx hb dX7_meet_46 rfl (lv_at hl 1 rfl) ?_
      refine lv_dup hx hb dX7_meet_47 rfl ?_
      refine gX_41_6 hx hb hts hown hK hP (v := (σ_r3.1 29)) rfl (hts _ kw_696) dX7_meet_48 ?_
      refine lv_iconst (v := 1) hx hb dX7_meet_51 (by decide) ?_
      refine lv_iadd hx hb dX7_meet_52 ?_
      refine pX_41_6 hx hb hts hown hK hP hA hS (hts _ kw_696) dX7_meet_53 (fun H locs hP hS => ?_)
      refine lv_aload_n hx hb dX7_meet_56 rfl (lv_at hl 1 rfl) ?_
      refine gX_41_14 hx hb hts hown hK hP (hts _ kw_128) dX7_meet_57 ?_
      refine lv_iload_n hx hb dX7_meet_60 rfl (lv_at hl 2 rfl) ?_
      refine gX_a48 hx hb hK hP (ib_in z4) (v := (σ_r3.2.1 48 x1.toNatClampNeg)) rfl dX7_meet_61 ?_
      refine lv_iconst (v := (-1)) hx hb dX7_meet_62 (by decide) ?_
      refine lv_icmp_ne (tgt := 73) hx hb dX7_meet_63 (by decide) (fun c5 => ?_) (fun c5 => ?_)
      · have hf := (if_neg c5).symm.trans hf
        refine lv_aload_n hx hb dX7_meet_73 rfl (lv_at hl 1 rfl) ?_
        refine gX_41_15 hx hb hts hown hK hP (hts _ kw_129) dX7_meet_74 ?_
        refine lv_iload_n hx hb dX7_meet_77 rfl (lv_at hl 2 rfl) ?_
        refine lv_iload_n hx hb dX7_meet_78 rfl (lv_at hl 3 rfl) ?_
        refine pX_a49 hx hb hK hP hA hS (ib_in z4) dX7_meet_79 (fun H locs hP hS => ?_)
        have hP : va_P D vwCl (wX A C (sA (sA (sI (sI σ_r3 28 ((σ_r3.1 28) + (r3 + 1))) 29 ((σ_r3.1 29) + 1)) 45 (upd (σ_r3.2.1 45) x1.toNatClampNeg ((σ_r3.2.1 45 x1.toNatClampNeg) + r3))) 49 (upd (σ_r3.2.1 49) x1.toNatClampNeg x2))) H := hP
        exact cx_vret cx hP hS hf dX7_meet_80
      · have hf := (if_pos c5).symm.trans hf
        refine lv_aload_n hx hb dX7_meet_66 rfl (lv_at hl 1 rfl) ?_
        refine gX_41_14 hx hb hts hown hK hP (hts _ kw_128) dX7_meet_67 ?_
        refine lv_iload_n hx hb dX7_meet_70 rfl (lv_at hl 2 rfl) ?_
        refine lv_iload_n hx hb dX7_meet_71 rfl (lv_at hl 3 rfl) ?_
        refine pX_a48 hx hb hK hP hA hS (ib_in z4) dX7_meet_72 (fun H locs hP hS => ?_)
        refine lv_aload_n hx hb dX7_meet_73 rfl (lv_at hl 1 rfl) ?_
        refine gX_41_15 hx hb hts hown hK hP (hts _ kw_129) dX7_meet_74 ?_
        refine lv_iload_n hx hb dX7_meet_77 rfl (lv_at hl 2 rfl) ?_
        refine lv_iload_n hx hb dX7_meet_78 rfl (lv_at hl 3 rfl) ?_
        refine pX_a49 hx hb hK hP hA hS (ib_in z4) dX7_meet_79 (fun H locs hP hS => ?_)
        have hP : va_P D vwCl (wX A C (sA (sA (sA (sI (sI σ_r3 28 ((σ_r3.1 28) + (r3 + 1))) 29 ((σ_r3.1 29) + 1)) 45 (upd (σ_r3.2.1 45) x1.toNatClampNeg ((σ_r3.2.1 45 x1.toNatClampNeg) + r3))) 48 (upd (σ_r3.2.1 48) x1.toNatClampNeg x2)) 49 (upd (σ_r3.2.1 49) x1.toNatClampNeg x2))) H := hP
        exact cx_vret cx hP hS hf dX7_meet_80
    · have hf := (if_neg c2).symm.trans hf
      exact cx_vret cx hP hS hf dX7_meet_10
set_option maxHeartbeats 4000000 in
set_option maxRecDepth 100000 in
theorem w_F_xX7_countSteps_101 {p : Program} {l : Launch} {e : Env} {s : State} {m : MethodId} {args : Array Value} {below : List Frame} {meth : Method} {c : Code} {D : va_G} {C : Nat → ClassId} {A adK adV : Nat → Nat} (hA : apA A 60) (cx : Cxx D C adK adV (fxA A 60) p s m args meth c cX7_countSteps 7 RX7 none) {res : St} {b12 : Int32 → St → Option St} (hb12 : ∀ (x3 : Int32) (σ : St) (H : Heap) (locs : List Loc) (ls : Array Slot), b12 x3 σ = some res → lv_has ls 7 [(0, .ref (A 41)), (1, .ref (A 37)), (2, .ref (A 25)), (3, .int x3)] → va_P D vwCl (wX A C σ) H → va_S (fxA A 60) s.heap H locs → W p l e rm_X7_countSteps s m args below meth c H locs 0 0 (MQ below (Qcx D (wX A C) (fxA A 60) none res) args s 0 0 (fxA A 60)) (F0 m 12 ls [])) : ∀ (x3 : Int32) (x4 : Int32) (σ : St) (H : Heap) (locs : List Loc) (ls : Array Slot), F_xX7_countSteps_101 b12 x3 x4 σ = some res → lv_has ls 7 [(0, .ref (A 41)), (1, .ref (A 37)), (2, .ref (A 25)), (3, .int x3), (4, .int x4)] → va_P D vwCl (wX A C σ) H → va_S (fxA A 60) s.heap H locs → W p l e rm_X7_countSteps s m args below meth c H locs 0 0 (MQ below (Qcx D (wX A C) (fxA A 60) none res) args s 0 0 (fxA A 60)) (F0 m 101 ls []) := by
  obtain ⟨hx, hb, hml, hown, hts, hK, hr, hlk, hZ⟩ := id cx
  intro x3 x4 σ H locs ls hf hl hP hS
  refine lv_aload_n hx hb dX7_countSteps_101 rfl (lv_at hl 0 rfl) ?_
  refine lv_dup hx hb dX7_countSteps_102 rfl ?_
  refine gX_41_5 hx hb hts hown hK hP (v := (σ.1 28)) rfl (hts _ kw_695) dX7_countSteps_103 ?_
  refine lv_iload hx hb dX7_countSteps_106 (lv_at hl 4 rfl) ?_
  obtain ⟨⟨r1, σ_r1⟩, h_r1, hf⟩ := bd_some hf
  refine cx_S (As := [.int x4]) (rest := [.int (σ.1 28), .ref (A 41)]) cx (ct_xX0_extraIn l D C A adK adV hA h_r1) (cw_X7_115 hts ⟨Nat.le_of_ble_eq_true rfl, Nat.le_of_ble_eq_true rfl⟩) hP hS rfl hl.1 rfl (Nat.le_of_ble_eq_true rfl) dX7_countSteps_108 ⟨Nat.zero_le _, Nat.zero_le _⟩ (fun H locs hP hS => ?_)
  refine lv_iadd hx hb dX7_countSteps_111 ?_
  refine pX_41_5 hx hb hts hown hK hP hA hS (hts _ kw_695) dX7_countSteps_112 (fun H locs hP hS => ?_)
  refine lv_aload_n hx hb dX7_countSteps_115 rfl (lv_at hl 0 rfl) ?_
  refine lv_dup hx hb dX7_countSteps_116 rfl ?_
  refine gX_41_6 hx hb hts hown hK hP (v := (σ_r1.1 29)) rfl (hts _ kw_696) dX7_countSteps_117 ?_
  refine lv_iload hx hb dX7_countSteps_120 (lv_at hl 4 rfl) ?_
  have hP : va_P D vwCl (wX A C (sI σ_r1 28 ((σ.1 28) + r1))) H := hP
  obtain ⟨⟨r2, σ_r2⟩, h_r2, hf⟩ := bd_some hf
  refine cx_S (As := [.int x4]) (rest := [.int (σ_r1.1 29), .ref (A 41)]) cx (ct_xX0_extraIn l D C A adK adV hA h_r2) (cw_X7_115 hts ⟨Nat.le_of_ble_eq_true rfl, Nat.le_of_ble_eq_true rfl⟩) hP hS rfl hl.1 rfl (Nat.le_of_ble_eq_true rfl) dX7_countSteps_122 ⟨Nat.zero_le _, Nat.zero_le _⟩ (fun H locs hP hS => ?_)
  refine lv_iadd hx hb dX7_countSteps_125 ?_
  refine pX_41_6 hx hb hts hown hK hP hA hS (hts _ kw_696) dX7_countSteps_126 (fun H locs hP hS => ?_)
  refine lv_iinc (v := (x3 + 1)) (lv' := [(3, .int (x3 + 1)), (0, .ref (A 41)), (1, .ref (A 37)), (2, .ref (A 25)), (4, .int x4)]) hx hb dX7_countSteps_129 hl (k := 3) rfl rfl (by decide) rfl (fun ls hl => ?_)
  refine lv_goto (tgt := 12) hx hb dX7_countSteps_132 (by decide) ?_
  have hP : va_P D vwCl (wX A C (sI σ_r2 29 ((σ_r1.1 29) + r2))) H := hP
  exact hb12 _ _ _ _ _ hf (lv_sub hl [1, 2, 3, 0] rfl) hP hS
set_option maxHeartbeats 4000000 in
set_option maxRecDepth 100000 in
theorem w_F_xX7_countSteps_75 {p : Program} {l : Launch} {e : Env} {s : State} {m : MethodId} {args : Array Value} {below : List Frame} {meth : Method} {c : Code} {D : va_G} {C : Nat → ClassId} {A adK adV : Nat → Nat} (hA : apA A 60) (cx : Cxx D C adK adV (fxA A 60) p s m args meth c cX7_countSteps 7 RX7 none) {res : St} {b12 : Int32 → St → Option St} (hb12 : ∀ (x3 : Int32) (σ : St) (H : Heap) (locs : List Loc) (ls : Array Slot), b12 x3 σ = some res → lv_has ls 7 [(0, .ref (A 41)), (1, .ref (A 37)), (2, .ref (A 25)), (3, .int x3)] → va_P D vwCl (wX A C σ) H → va_S (fxA A 60) s.heap H locs → W p l e rm_X7_countSteps s m args below meth c H locs 0 0 (MQ below (Qcx D (wX A C) (fxA A 60) none res) args s 0 0 (fxA A 60)) (F0 m 12 ls [])) : ∀ (x3 : Int32) (x4 : Int32) (x6 : Int32) (σ : St) (H : Heap) (locs : List Loc) (ls : Array Slot), F_xX7_countSteps_75 b12 x3 x4 x6 σ = some res → lv_has ls 7 [(0, .ref (A 41)), (1, .ref (A 37)), (2, .ref (A 25)), (3, .int x3), (4, .int x4), (6, .int x6)] → va_P D vwCl (wX A C σ) H → va_S (fxA A 60) s.heap H locs → W p l e rm_X7_countSteps s m args below meth c H locs 0 0 (MQ below (Qcx D (wX A C) (fxA A 60) none res) args s 0 0 (fxA A 60)) (F0 m 75 ls []) := by
  obtain ⟨hx, hb, hml, hown, hts, hK, hr, hlk, hZ⟩ := id cx
  intro x3 x4 x6 σ H locs ls hf hl hP hS
  refine lv_iload hx hb dX7_countSteps_75 (lv_at hl 5 rfl) ?_
  refine lv_bipush (v := 40) hx hb dX7_countSteps_77 (by decide) ?_
  refine lv_icmp_ge (tgt := 101) hx hb dX7_countSteps_79 (by decide) (fun c3 => ?_) (fun c3 => ?_)
  · have hf := (if_pos c3).symm.trans hf
    exact w_F_xX7_countSteps_101 hA cx hb12 _ _ _ _ _ _ hf (lv_sub hl [0, 1, 2, 3, 4] rfl) hP hS
  · have hf := (if_neg c3).symm.trans hf
    refine lv_aload_n hx hb dX7_countSteps_82 rfl (lv_at hl 0 rfl) ?_
    refine lv_iload hx hb dX7_countSteps_83 (lv_at hl 5 rfl) ?_
    refine lv_iload_n hx hb dX7_countSteps_85 rfl (lv_at hl 3 rfl) ?_
    refine lv_aload_n hx hb dX7_countSteps_86 rfl (lv_at hl 2 rfl) ?_
    obtain ⟨σ_r4, h_r4, hf⟩ := bv_some hf
    refine cx_V (As := [.int x6, .int x3, .ref (A 25)]) (rest := []) cx (ct_xX7_meet l D C A adK adV hA h_r4) (cw_X7_111 hts ⟨Nat.le_of_ble_eq_true rfl, Nat.le_of_ble_eq_true rfl⟩) (va_recv hK hP (ci := 7) (q0 := 41) rfl (wX_41 A C _)) hP hS rfl hl.1 rfl (Nat.le_of_ble_eq_true rfl) dX7_countSteps_87 ⟨Nat.zero_le _, Nat.zero_le _⟩ (fun H locs hP hS => ?_)
    refine lv_aload_n hx hb dX7_countSteps_90 rfl (lv_at hl 0 rfl) ?_
    refine gX_41_10 hx hb hts hown hK hP (hts _ kw_124) dX7_countSteps_91 ?_
    refine lv_iload hx hb dX7_countSteps_94 (lv_at hl 5 rfl) ?_
    refine lv_dup2_11 hx hb dX7_countSteps_96 rfl rfl ?_
    obtain ⟨z5, hf⟩ := gd_some hf
    refine gX_a44 hx hb hK hP (ib_in z5) (v := (σ_r4.2.1 44 x6.toNatClampNeg)) rfl dX7_countSteps_97 ?_
    refine lv_iconst (v := 1) hx hb dX7_countSteps_98 (by decide) ?_
    refine lv_iadd hx hb dX7_countSteps_99 ?_
    refine pX_a44 hx hb hK hP hA hS (ib_in z5) dX7_countSteps_100 (fun H locs hP hS => ?_)
    have hP : va_P D vwCl (wX A C (sA σ_r4 44 (upd (σ_r4.2.1 44) x6.toNatClampNeg ((σ_r4.2.1 44 x6.toNatClampNeg) + 1)))) H := hP
    exact w_F_xX7_countSteps_101 hA cx hb12 _ _ _ _ _ _ hf (lv_sub hl [0, 1, 2, 3, 4] rfl) hP hS
set_option maxHeartbeats 4000000 in
set_option maxRecDepth 100000 in
theorem w_F_xX7_countSteps_12 {p : Program} {l : Launch} {e : Env} {s : State} {m : MethodId} {args : Array Value} {below : List Frame} {meth : Method} {c : Code} {D : va_G} {C : Nat → ClassId} {A adK adV : Nat → Nat} (hA : apA A 60) (cx : Cxx D C adK adV (fxA A 60) p s m args meth c cX7_countSteps 7 RX7 none) {res : St} : ∀ (n : Nat), ∀ (x3 : Int32) (σ : St) (H : Heap) (locs : List Loc) (ls : Array Slot), F_xX7_countSteps_12 n x3 σ = some res → lv_has ls 7 [(0, .ref (A 41)), (1, .ref (A 37)), (2, .ref (A 25)), (3, .int x3)] → va_P D vwCl (wX A C σ) H → va_S (fxA A 60) s.heap H locs → W p l e rm_X7_countSteps s m args below meth c H locs 0 0 (MQ below (Qcx D (wX A C) (fxA A 60) none res) args s 0 0 (fxA A 60)) (F0 m 12 ls []) := by
  obtain ⟨hx, hb, hml, hown, hts, hK, hr, hlk, hZ⟩ := id cx
  intro n
  induction n with
  | zero =>
    intro x3 σ H locs ls hf hl hP hS
    exact absurd (show (none : Option St) = some res from hf) (by intro h; cases h)
  | succ n ih =>
    intro x3 σ H locs ls hf hl hP hS
    refine lv_iload_n hx hb dX7_countSteps_12 rfl (lv_at hl 3 rfl) ?_
    refine lv_aload_n hx hb dX7_countSteps_13 rfl (lv_at hl 1 rfl) ?_
    refine gX_37_3 hx hb hts hown hK hP (v := (σ.1 18)) rfl (hts _ kw_697) dX7_countSteps_14 ?_
    refine lv_icmp_ge (tgt := 135) hx hb dX7_countSteps_17 (by decide) (fun c6 => ?_) (fun c6 => ?_)
    · have hf := (if_pos c6).symm.trans hf
      exact cx_vret cx hP hS hf dX7_countSteps_135
    · have hf := (if_neg c6).symm.trans hf
      refine lv_iload_n hx hb dX7_countSteps_20 rfl (lv_at hl 3 rfl) ?_
      refine lv_sipush (v := 2000) hx hb dX7_countSteps_21 (by decide) ?_
      refine lv_icmp_ge (tgt := 135) hx hb dX7_countSteps_24 (by decide) (fun c7 => ?_) (fun c7 => ?_)
      · have hf := (if_pos c7).symm.trans hf
        exact cx_vret cx hP hS hf dX7_countSteps_135
      · have hf := (if_neg c7).symm.trans hf
        refine lv_aload_n hx hb dX7_countSteps_27 rfl (lv_at hl 1 rfl) ?_
        refine gX_37_0 hx hb hts hown hK hP (hts _ kw_698) dX7_countSteps_28 ?_
        refine lv_iload_n hx hb dX7_countSteps_31 rfl (lv_at hl 3 rfl) ?_
        obtain ⟨z8, hf⟩ := gd_some hf
        refine gX_a38 hx hb hK hP (ib_in z8) (v := (σ.2.1 38 x3.toNatClampNeg)) rfl dX7_countSteps_32 ?_
        refine lv_istore (lv' := [(4, .int (σ.2.1 38 x3.toNatClampNeg)), (0, .ref (A 41)), (1, .ref (A 37)), (2, .ref (A 25)), (3, .int x3)]) hx hb dX7_countSteps_33 hl (by decide) rfl (fun ls hl => ?_)
        refine lv_iload hx hb dX7_countSteps_35 (lv_at hl 0 rfl) ?_
        obtain ⟨⟨r9, σ_r9⟩, h_r9, hf⟩ := bd_some hf
        refine cx_S (As := [.int (σ.2.1 38 x3.toNatClampNeg)]) (rest := []) cx (ct_xX0_nameIn l D C A adK adV hA h_r9) (cw_X7_104 hts ⟨Nat.le_of_ble_eq_true rfl, Nat.le_of_ble_eq_true rfl⟩) hP hS rfl hl.1 rfl (Nat.le_of_ble_eq_true rfl) dX7_countSteps_37 ⟨Nat.zero_le _, Nat.zero_le _⟩ (fun H locs hP hS => ?_)
        refine lv_istore (lv' := [(5, .int r9), (4, .int (σ.2.1 38 x3.toNatClampNeg)), (0, .ref (A 41)), (1, .ref (A 37)), (2, .ref (A 25)), (3, .int x3)]) hx hb dX7_countSteps_40 hl (by decide) rfl (fun ls hl => ?_)
        refine lv_iload hx hb dX7_countSteps_42 (lv_at hl 1 rfl) ?_
        obtain ⟨⟨r10, σ_r10⟩, h_r10, hf⟩ := bd_some hf
        refine cx_S (As := [.int (σ.2.1 38 x3.toNatClampNeg)]) (rest := []) cx (ct_xX0_wordIn l D C A adK adV hA h_r10) (cw_X7_108 hts ⟨Nat.le_of_ble_eq_true rfl, Nat.le_of_ble_eq_true rfl⟩) hP hS rfl hl.1 rfl (Nat.le_of_ble_eq_true rfl) dX7_countSteps_44 ⟨Nat.zero_le _, Nat.zero_le _⟩ (fun H locs hP hS => ?_)
        refine lv_istore (lv' := [(6, .int r10), (5, .int r9), (4, .int (σ.2.1 38 x3.toNatClampNeg)), (0, .ref (A 41)), (1, .ref (A 37)), (2, .ref (A 25)), (3, .int x3)]) hx hb dX7_countSteps_47 hl (by decide) rfl (fun ls hl => ?_)
        refine lv_aload_n hx hb dX7_countSteps_49 rfl (lv_at hl 3 rfl) ?_
        refine lv_iload hx hb dX7_countSteps_50 (lv_at hl 1 rfl) ?_
        refine lv_iload_n hx hb dX7_countSteps_52 rfl (lv_at hl 6 rfl) ?_
        refine lv_aload_n hx hb dX7_countSteps_53 rfl (lv_at hl 5 rfl) ?_
        obtain ⟨σ_r11, h_r11, hf⟩ := bv_some hf
        refine cx_V (As := [.int r9, .int x3, .ref (A 25)]) (rest := []) cx (ct_xX7_meet l D C A adK adV hA h_r11) (cw_X7_111 hts ⟨Nat.le_of_ble_eq_true rfl, Nat.le_of_ble_eq_true rfl⟩) (va_recv hK hP (ci := 7) (q0 := 41) rfl (wX_41 A C _)) hP hS rfl hl.1 rfl (Nat.le_of_ble_eq_true rfl) dX7_countSteps_54 ⟨Nat.zero_le _, Nat.zero_le _⟩ (fun H locs hP hS => ?_)
        refine lv_iload hx hb dX7_countSteps_57 (lv_at hl 1 rfl) ?_
        refine lv_bipush (v := 40) hx hb dX7_countSteps_59 (by decide) ?_
        refine lv_icmp_ge (tgt := 75) hx hb dX7_countSteps_61 (by decide) (fun c12 => ?_) (fun c12 => ?_)
        · have hf := (if_pos c12).symm.trans hf
          exact w_F_xX7_countSteps_75 hA cx ih _ _ _ _ _ _ _ hf (lv_sub hl [3, 4, 5, 6, 2, 0] rfl) hP hS
        · have hf := (if_neg c12).symm.trans hf
          refine lv_aload_n hx hb dX7_countSteps_64 rfl (lv_at hl 3 rfl) ?_
          refine gX_41_9 hx hb hts hown hK hP (hts _ kw_123) dX7_countSteps_65 ?_
          refine lv_iload hx hb dX7_countSteps_68 (lv_at hl 1 rfl) ?_
          refine lv_dup2_11 hx hb dX7_countSteps_70 rfl rfl ?_
          obtain ⟨z13, hf⟩ := gd_some hf
          refine gX_a43 hx hb hK hP (ib_in z13) (v := (σ_r11.2.1 43 r9.toNatClampNeg)) rfl dX7_countSteps_71 ?_
          refine lv_iconst (v := 1) hx hb dX7_countSteps_72 (by decide) ?_
          refine lv_iadd hx hb dX7_countSteps_73 ?_
          refine pX_a43 hx hb hK hP hA hS (ib_in z13) dX7_countSteps_74 (fun H locs hP hS => ?_)
          have hP : va_P D vwCl (wX A C (sA σ_r11 43 (upd (σ_r11.2.1 43) r9.toNatClampNeg ((σ_r11.2.1 43 r9.toNatClampNeg) + 1)))) H := hP
          exact w_F_xX7_countSteps_75 hA cx ih _ _ _ _ _ _ _ hf (lv_sub hl [3, 4, 5, 6, 2, 0] rfl) hP hS
set_option maxHeartbeats 4000000 in
set_option maxRecDepth 100000 in
theorem ct_xX7_countSteps (l : Launch) (D : va_G) (C : Nat → ClassId) (A adK adV : Nat → Nat) (hA : apA A 60)  {σ : St} {res : St} (hf : F_xX7_countSteps σ = some res) : Met l yX7_countSteps (Cond.code yX7_countSteps cX7_countSteps 7 none :: wsL_law) rm_X7_countSteps (Pcx D C (wX A C) adK adV (fxA A 60) [.ref (A 41), .ref (A 37), .ref (A 25)] σ) (Qcx D (wX A C) (fxA A 60) none res) 0 0 (fxA A 60) := by
  refine Met.ofW (cc := cX7_countSteps) (maxL := 7) (ret := none) (by decide) rfl ?_
  intro p e s m args below meth c s₁ B hml hv
  obtain ⟨rfl, hP, hK, hZ⟩ := hv
  have cx : Cxx D C adK adV (fxA A 60) p s m _ meth c cX7_countSteps 7 RX7 none := ⟨B.exec, B.bytes, hml, findClass_of_methodNamed B.named, fun w h => atoms_spec (ws := Cond.code yX7_countSteps cX7_countSteps 7 none :: wsL_law) B.pre w (List.mem_cons_of_mem _ h), hK, B.returns, B.notSynchronized, hZ⟩
  obtain ⟨hx, hb, -, hown, hts, -, hr, hlk, -⟩ := id cx
  have hS : va_S (fxA A 60) s.heap s.heap [] := va_S.rf
  have hl := lv_entry ([.ref (A 41), .ref (A 37), .ref (A 25)]) (n := 7) (Nat.le_of_ble_eq_true rfl)
  rw [lg_entry_eq]
  generalize (lg_sl ([.ref (A 41), .ref (A 37), .ref (A 25)]) ++ List.replicate (7 - (lg_sl ([.ref (A 41), .ref (A 37), .ref (A 25)])).length) Slot.unset).toArray = ls at hl ⊢
  have hl : lv_has ls 7 [(0, .ref (A 41)), (1, .ref (A 37)), (2, .ref (A 25))] := hl
  show W p l e rm_X7_countSteps s m _ below meth c s.heap [] 0 0 _ _
  refine lv_aload_n hx hb dX7_countSteps_0 rfl (lv_at hl 0 rfl) ?_
  refine lv_iconst (v := 0) hx hb dX7_countSteps_1 (by decide) ?_
  refine pX_41_5 hx hb hts hown hK hP hA hS (hts _ kw_695) dX7_countSteps_2 (fun H locs hP hS => ?_)
  refine lv_aload_n hx hb dX7_countSteps_5 rfl (lv_at hl 0 rfl) ?_
  refine lv_iconst (v := 0) hx hb dX7_countSteps_6 (by decide) ?_
  refine pX_41_6 hx hb hts hown hK hP hA hS (hts _ kw_696) dX7_countSteps_7 (fun H locs hP hS => ?_)
  refine lv_iconst (v := 0) hx hb dX7_countSteps_10 (by decide) ?_
  refine lv_istore_n (lv' := [(3, .int 0), (0, .ref (A 41)), (1, .ref (A 37)), (2, .ref (A 25))]) hx hb dX7_countSteps_11 rfl hl (by decide) rfl (fun ls hl => ?_)
  have hP : va_P D vwCl (wX A C (sI (sI σ 28 0) 29 0)) H := hP
  exact w_F_xX7_countSteps_12 hA cx FU _ _ _ _ _ hf (lv_sub hl [1, 2, 3, 0] rfl) hP hS
