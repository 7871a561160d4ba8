set_option maxHeartbeats 4000000 in
set_option maxRecDepth 100000 in
theorem w_F_mX11_known_134 {p : Program} {l : Launch} {e : Env} {s : State} {m : MethodId} {args : Array Value} {below : List Frame} {meth : Method} {c : Code} {D : va_G} {C : Nat → ClassId} {A adK adV : Nat → Nat} (hA : apA A 33) (cx : Cxx D C adK adV (fxA A 33) p s m args meth c cX11_known 7 RX11 (some .int)) {res : (Int32 × St)} {b46 : Int32 → Int32 → Int32 → St → Option (Int32 × St)} (hb46 : ∀ (x1 : Int32) (x2 : Int32) (x3 : Int32) (σ : St) (H : Heap) (locs : List Loc) (ls : Array Slot), b46 x1 x2 x3 σ = some res → lv_has ls 7 [(0, .ref (A 0)), (1, .int x1), (2, .int x2), (3, .int x3)] → va_P D vwCl (wM A C σ) H → va_S (fxA A 33) s.heap H locs → W p l e rm_X11_known s m args below meth c H locs 0 0 (MQ below (Qcx D (wM A C) (fxA A 33) (some (.int res.1)) res.2) args s 0 0 (fxA A 33)) (F0 m 46 ls [])) : ∀ (x1 : Int32) (x2 : Int32) (x3 : Int32) (x6 : Int32) (σ : St) (H : Heap) (locs : List Loc) (ls : Array Slot), F_mX11_known_134 b46 x1 x2 x3 x6 σ = some res → lv_has ls 7 [(0, .ref (A 0)), (1, .int x1), (2, .int x2), (3, .int x3), (6, .int x6)] → va_P D vwCl (wM A C σ) H → va_S (fxA A 33) s.heap H locs → W p l e rm_X11_known s m args below meth c H locs 0 0 (MQ below (Qcx D (wM A C) (fxA A 33) (some (.int res.1)) res.2) args s 0 0 (fxA A 33)) (F0 m 134 ls []) := by
  obtain ⟨hx, hb, hml, hown, hts, hK, hr, hlk, hZ⟩ := id cx
  intro x1 x2 x3 x6 σ H locs ls hf hl hP hS
  refine lv_aload_n hx hb dX11_known_134 rfl (lv_at hl 0 rfl) ?_
  refine lv_iload hx hb dX11_known_135 (lv_at hl 4 rfl) ?_
  refine lv_iload_n hx hb dX11_known_137 rfl (lv_at hl 2 rfl) ?_
  obtain ⟨⟨r1, σ_r1⟩, h_r1, hf⟩ := bd_some hf
  refine cx_V (As := [.int x6, .int x2]) (rest := []) cx (ct_mX11_reach l D C A adK adV hA h_r1) (cw_X11_311 hts ⟨Nat.le_of_ble_eq_true rfl, Nat.le_of_ble_eq_true rfl⟩) (va_recv hK hP (ci := 11) (q0 := 0) rfl (wM_0 A C _)) hP hS rfl hl.1 rfl (Nat.le_of_ble_eq_true rfl) dX11_known_138 ⟨Nat.zero_le _, Nat.zero_le _⟩ (fun H locs hP hS => ?_)
  refine lv_istore_n (lv' := [(2, .int r1), (0, .ref (A 0)), (1, .int x1), (3, .int x3), (6, .int x6)]) hx hb dX11_known_141 rfl hl (by decide) rfl (fun ls hl => ?_)
  refine lv_iinc (v := (x3 + 1)) (lv' := [(3, .int (x3 + 1)), (2, .int r1), (0, .ref (A 0)), (1, .int x1), (6, .int x6)]) hx hb dX11_known_142 hl (k := 3) rfl rfl (by decide) rfl (fun ls hl => ?_)
  refine lv_goto (tgt := 46) hx hb dX11_known_145 (by decide) ?_
  exact hb46 _ _ _ _ _ _ _ hf (lv_sub hl [2, 3, 1, 0] rfl) hP hS
set_option maxHeartbeats 4000000 in
set_option maxRecDepth 100000 in
theorem w_F_mX11_known_101 {p : Program} {l : Launch} {e : Env} {s : State} {m : MethodId} {args : Array Value} {below : List Frame} {meth : Method} {c : Code} {D : va_G} {C : Nat → ClassId} {A adK adV : Nat → Nat} (hA : apA A 33) (cx : Cxx D C adK adV (fxA A 33) p s m args meth c cX11_known 7 RX11 (some .int)) {res : (Int32 × St)} {b46 : Int32 → Int32 → Int32 → St → Option (Int32 × St)} (hb46 : ∀ (x1 : Int32) (x2 : Int32) (x3 : Int32) (σ : St) (H : Heap) (locs : List Loc) (ls : Array Slot), b46 x1 x2 x3 σ = some res → lv_has ls 7 [(0, .ref (A 0)), (1, .int x1), (2, .int x2), (3, .int x3)] → va_P D vwCl (wM A C σ) H → va_S (fxA A 33) s.heap H locs → W p l e rm_X11_known s m args below meth c H locs 0 0 (MQ below (Qcx D (wM A C) (fxA A 33) (some (.int res.1)) res.2) args s 0 0 (fxA A 33)) (F0 m 46 ls [])) : ∀ (x1 : Int32) (x2 : Int32) (x3 : Int32) (x4 : Int32) (x5 : Int32) (x6 : Int32) (σ : St) (H : Heap) (locs : List Loc) (ls : Array Slot), F_mX11_known_101 b46 x1 x2 x3 x4 x5 x6 σ = some res → lv_has ls 7 [(0, .ref (A 0)), (1, .int x1), (2, .int x2), (3, .int x3), (4, .int x4), (5, .int x5), (6, .int x6)] → va_P D vwCl (wM A C σ) H → va_S (fxA A 33) s.heap H locs → W p l e rm_X11_known s m args below meth c H locs 0 0 (MQ below (Qcx D (wM A C) (fxA A 33) (some (.int res.1)) res.2) args s 0 0 (fxA A 33)) (F0 m 101 ls []) := by
  obtain ⟨hx, hb, hml, hown, hts, hK, hr, hlk, hZ⟩ := id cx
  intro x1 x2 x3 x4 x5 x6 σ H locs ls hf hl hP hS
  refine lv_iload hx hb dX11_known_101 (lv_at hl 5 rfl) ?_
  refine lv_if_ne (tgt := 109) hx hb dX11_known_103 (by decide) (fun c2 => ?_) (fun c2 => ?_)
  · have hf := (if_neg c2).symm.trans hf
    refine lv_aload_n hx hb dX11_known_109 rfl (lv_at hl 0 rfl) ?_
    refine lv_iload hx hb dX11_known_110 (lv_at hl 4 rfl) ?_
    refine lv_bipush (v := 100) hx hb dX11_known_112 (by decide) ?_
    refine lv_irem hx hb dX11_known_114 (by decide) ?_
    refine lv_iload_n hx hb dX11_known_115 rfl (lv_at hl 2 rfl) ?_
    obtain ⟨⟨r3, σ_r3⟩, h_r3, hf⟩ := bd_some hf
    refine cx_V (As := [.int (x4 - x4 / 100 * 100), .int x2]) (rest := []) cx (ct_mX11_reach l D C A adK adV hA h_r3) (cw_X11_311 hts ⟨Nat.le_of_ble_eq_true rfl, Nat.le_of_ble_eq_true rfl⟩) (va_recv hK hP (ci := 11) (q0 := 0) rfl (wM_0 A C _)) hP hS rfl hl.1 rfl (Nat.le_of_ble_eq_true rfl) dX11_known_116 ⟨Nat.zero_le _, Nat.zero_le _⟩ (fun H locs hP hS => ?_)
    refine lv_istore_n (lv' := [(2, .int r3), (0, .ref (A 0)), (1, .int x1), (3, .int x3), (4, .int x4), (5, .int x5), (6, .int x6)]) hx hb dX11_known_119 rfl hl (by decide) rfl (fun ls hl => ?_)
    refine lv_iload hx hb dX11_known_120 (lv_at hl 5 rfl) ?_
    refine lv_bipush (v := 6) hx hb dX11_known_122 (by decide) ?_
    refine lv_icmp_eq (tgt := 134) hx hb dX11_known_124 (by decide) (fun c4 => ?_) (fun c4 => ?_)
    · have hf := (if_pos c4).symm.trans hf
      exact w_F_mX11_known_134 hA cx hb46 _ _ _ _ _ _ _ _ hf (lv_sub hl [1, 2, 0, 3, 6] rfl) hP hS
    · have hf := (if_neg c4).symm.trans hf
      refine lv_iload hx hb dX11_known_127 (lv_at hl 5 rfl) ?_
      refine lv_bipush (v := 7) hx hb dX11_known_129 (by decide) ?_
      refine lv_icmp_ne (tgt := 142) hx hb dX11_known_131 (by decide) (fun c5 => ?_) (fun c5 => ?_)
      · have hf := (if_neg c5).symm.trans hf
        refine lv_iinc (v := (x3 + 1)) (lv' := [(3, .int (x3 + 1)), (2, .int r3), (0, .ref (A 0)), (1, .int x1), (4, .int x4), (5, .int x5), (6, .int x6)]) hx hb dX11_known_142 hl (k := 3) rfl rfl (by decide) rfl (fun ls hl => ?_)
        refine lv_goto (tgt := 46) hx hb dX11_known_145 (by decide) ?_
        exact hb46 _ _ _ _ _ _ _ hf (lv_sub hl [2, 3, 1, 0] rfl) hP hS
      · have hf := (if_pos c5).symm.trans hf
        exact w_F_mX11_known_134 hA cx hb46 _ _ _ _ _ _ _ _ hf (lv_sub hl [1, 2, 0, 3, 6] rfl) hP hS
  · have hf := (if_pos c2).symm.trans hf
    refine lv_goto (tgt := 142) hx hb dX11_known_106 (by decide) ?_
    refine lv_iinc (v := (x3 + 1)) (lv' := [(3, .int (x3 + 1)), (0, .ref (A 0)), (1, .int x1), (2, .int x2), (4, .int x4), (5, .int x5), (6, .int x6)]) hx hb dX11_known_142 hl (k := 3) rfl rfl (by decide) rfl (fun ls hl => ?_)
    refine lv_goto (tgt := 46) hx hb dX11_known_145 (by decide) ?_
    exact hb46 _ _ _ _ _ _ _ hf (lv_sub hl [1, 2, 3, 0] rfl) hP hS
set_option maxHeartbeats 4000000 in
set_option maxRecDepth 100000 in
theorem w_F_mX11_known_46 {p : Program} {l : Launch} {e : Env} {s : State} {m : MethodId} {args : Array Value} {below : List Frame} {meth : Method} {c : Code} {D : va_G} {C : Nat → ClassId} {A adK adV : Nat → Nat} (hA : apA A 33) (cx : Cxx D C adK adV (fxA A 33) p s m args meth c cX11_known 7 RX11 (some .int)) {res : (Int32 × St)} : ∀ (n : Nat), ∀ (x1 : Int32) (x2 : Int32) (x3 : Int32) (σ : St) (H : Heap) (locs : List Loc) (ls : Array Slot), F_mX11_known_46 n x1 x2 x3 σ = some res → lv_has ls 7 [(0, .ref (A 0)), (1, .int x1), (2, .int x2), (3, .int x3)] → va_P D vwCl (wM A C σ) H → va_S (fxA A 33) s.heap H locs → W p l e rm_X11_known s m args below meth c H locs 0 0 (MQ below (Qcx D (wM A C) (fxA A 33) (some (.int res.1)) res.2) args s 0 0 (fxA A 33)) (F0 m 46 ls []) := by
  obtain ⟨hx, hb, hml, hown, hts, hK, hr, hlk, hZ⟩ := id cx
  intro n
  induction n with
  | zero =>
    intro x1 x2 x3 σ H locs ls hf hl hP hS
    exact absurd (show (none : Option (Int32 × St)) = some res from hf) (by intro h; cases h)
  | succ n ih =>
    intro x1 x2 x3 σ H locs ls hf hl hP hS
    refine lv_iload_n hx hb dX11_known_46 rfl (lv_at hl 3 rfl) ?_
    refine lv_iload_n hx hb dX11_known_47 rfl (lv_at hl 2 rfl) ?_
    refine lv_icmp_ge (tgt := 148) hx hb dX11_known_48 (by decide) (fun c6 => ?_) (fun c6 => ?_)
    · have hf := (if_pos c6).symm.trans hf
      refine lv_aload_n hx hb dX11_known_148 rfl (lv_at hl 0 rfl) ?_
      refine gM_0_54 hx hb hts hown hK hP (hts _ kw_182) dX11_known_149 ?_
      refine lv_iload_n hx hb dX11_known_152 rfl (lv_at hl 1 rfl) ?_
      obtain ⟨z7, hf⟩ := gd_some hf
      refine gM_a29 hx hb hK hP (ib_in z7) (v := (σ.2.1 29 x1.toNatClampNeg)) rfl dX11_known_153 ?_
      exact cx_iret cx hP hS hf dX11_known_154
    · have hf := (if_neg c6).symm.trans hf
      refine lv_aload_n hx hb dX11_known_51 rfl (lv_at hl 0 rfl) ?_
      refine gM_0_22 hx hb hts hown hK hP (hts _ kw_159) dX11_known_52 ?_
      refine lv_aload_n hx hb dX11_known_55 rfl (lv_at hl 0 rfl) ?_
      refine gM_0_55 hx hb hts hown hK hP (hts _ kw_183) dX11_known_56 ?_
      refine lv_iload_n hx hb dX11_known_59 rfl (lv_at hl 3 rfl) ?_
      obtain ⟨z8, hf⟩ := gd_some hf
      refine gM_a30 hx hb hK hP (ib_in z8) (v := (σ.2.1 30 x3.toNatClampNeg)) rfl dX11_known_60 ?_
      obtain ⟨z9, hf⟩ := gd_some hf
      refine gM_a6 hx hb hK hP (ib_in z9) (v := (σ.2.1 6 (σ.2.1 30 x3.toNatClampNeg).toNatClampNeg)) rfl dX11_known_61 ?_
      refine lv_istore (lv' := [(4, .int (σ.2.1 6 (σ.2.1 30 x3.toNatClampNeg).toNatClampNeg)), (0, .ref (A 0)), (1, .int x1), (2, .int x2), (3, .int x3)]) hx hb dX11_known_62 hl (by decide) rfl (fun ls hl => ?_)
      refine lv_iload hx hb dX11_known_64 (lv_at hl 0 rfl) ?_
      refine lv_sipush (v := 10000) hx hb dX11_known_66 (by decide) ?_
      refine lv_idiv hx hb dX11_known_69 (by decide) ?_
      refine lv_topi (fun v10 e_v10 => ?_)
      have hf := nm_use e_v10 hf
      refine lv_istore (lv' := [(5, .int v10), (4, .int (σ.2.1 6 (σ.2.1 30 x3.toNatClampNeg).toNatClampNeg)), (0, .ref (A 0)), (1, .int x1), (2, .int x2), (3, .int x3)]) hx hb dX11_known_70 hl (by decide) rfl (fun ls hl => ?_)
      refine lv_iload hx hb dX11_known_72 (lv_at hl 1 rfl) ?_
      refine lv_bipush (v := 100) hx hb dX11_known_74 (by decide) ?_
      refine lv_idiv hx hb dX11_known_76 (by decide) ?_
      refine lv_bipush (v := 100) hx hb dX11_known_77 (by decide) ?_
      refine lv_irem hx hb dX11_known_79 (by decide) ?_
      refine lv_topi (fun v11 e_v11 => ?_)
      have hf := nm_use e_v11 hf
      refine lv_istore (lv' := [(6, .int v11), (5, .int v10), (4, .int (σ.2.1 6 (σ.2.1 30 x3.toNatClampNeg).toNatClampNeg)), (0, .ref (A 0)), (1, .int x1), (2, .int x2), (3, .int x3)]) hx hb dX11_known_80 hl (by decide) rfl (fun ls hl => ?_)
      refine lv_iload hx hb dX11_known_82 (lv_at hl 1 rfl) ?_
      obtain ⟨⟨r12, σ_r12⟩, h_r12, hf⟩ := bd_some hf
      refine cx_S (As := [.int v10]) (rest := []) cx (ct_mX11_reads l D C A adK adV hA h_r12) (cw_X11_277 hts ⟨Nat.le_of_ble_eq_true rfl, Nat.le_of_ble_eq_true rfl⟩) hP hS rfl hl.1 rfl (Nat.le_of_ble_eq_true rfl) dX11_known_84 ⟨Nat.zero_le _, Nat.zero_le _⟩ (fun H locs hP hS => ?_)
      refine lv_if_eq (tgt := 101) hx hb dX11_known_87 (by decide) (fun c13 => ?_) (fun c13 => ?_)
      · have hf := (if_pos c13).symm.trans hf
        exact w_F_mX11_known_101 hA cx ih _ _ _ _ _ _ _ _ _ _ hf (lv_sub hl [3, 4, 5, 6, 2, 1, 0] rfl) hP hS
      · have hf := (if_neg c13).symm.trans hf
        refine lv_aload_n hx hb dX11_known_90 rfl (lv_at hl 3 rfl) ?_
        refine gM_0_54 hx hb hts hown hK hP (hts _ kw_182) dX11_known_91 ?_
        refine lv_iload hx hb dX11_known_94 (lv_at hl 0 rfl) ?_
        refine lv_dup2_11 hx hb dX11_known_96 rfl rfl ?_
        obtain ⟨z14, hf⟩ := gd_some hf
        refine gM_a29 hx hb hK hP (ib_in z14) (v := (σ_r12.2.1 29 v11.toNatClampNeg)) rfl dX11_known_97 ?_
        refine lv_iconst (v := 2) hx hb dX11_known_98 (by decide) ?_
        refine lv_ior hx hb dX11_known_99 ?_
        refine pM_a29 hx hb hK hP hA hS (ib_in z14) dX11_known_100 (fun H locs hP hS => ?_)
        have hP : va_P D vwCl (wM A C (sA σ_r12 29 (upd (σ_r12.2.1 29) v11.toNatClampNeg ((σ_r12.2.1 29 v11.toNatClampNeg) ||| 2)))) H := hP
        exact w_F_mX11_known_101 hA cx ih _ _ _ _ _ _ _ _ _ _ hf (lv_sub hl [3, 4, 5, 6, 2, 1, 0] rfl) hP hS
set_option maxHeartbeats 4000000 in
set_option maxRecDepth 100000 in
theorem w_F_mX11_known_13 {p : Program} {l : Launch} {e : Env} {s : State} {m : MethodId} {args : Array Value} {below : List Frame} {meth : Method} {c : Code} {D : va_G} {C : Nat → ClassId} {A adK adV : Nat → Nat} (hA : apA A 33) (cx : Cxx D C adK adV (fxA A 33) p s m args meth c cX11_known 7 RX11 (some .int)) {res : (Int32 × St)} : ∀ (n : Nat), ∀ (x1 : Int32) (x2 : Int32) (σ : St) (H : Heap) (locs : List Loc) (ls : Array Slot), F_mX11_known_13 n x1 x2 σ = some res → lv_has ls 7 [(0, .ref (A 0)), (1, .int x1), (2, .int x2)] → va_P D vwCl (wM A C σ) H → va_S (fxA A 33) s.heap H locs → W p l e rm_X11_known s m args below meth c H locs 0 0 (MQ below (Qcx D (wM A C) (fxA A 33) (some (.int res.1)) res.2) args s 0 0 (fxA A 33)) (F0 m 13 ls []) := by
  obtain ⟨hx, hb, hml, hown, hts, hK, hr, hlk, hZ⟩ := id cx
  intro n
  induction n with
  | zero =>
    intro x1 x2 σ H locs ls hf hl hP hS
    exact absurd (show (none : Option (Int32 × St)) = some res from hf) (by intro h; cases h)
  | succ n ih =>
    intro x1 x2 σ H locs ls hf hl hP hS
    refine lv_iload_n hx hb dX11_known_13 rfl (lv_at hl 2 rfl) ?_
    refine lv_aload_n hx hb dX11_known_14 rfl (lv_at hl 0 rfl) ?_
    refine gM_0_17 hx hb hts hown hK hP (v := (σ.1 12)) rfl (hts _ kw_416) dX11_known_15 ?_
    refine lv_icmp_ge (tgt := 34) hx hb dX11_known_18 (by decide) (fun c15 => ?_) (fun c15 => ?_)
    · have hf := (if_pos c15).symm.trans hf
      refine lv_aload_n hx hb dX11_known_34 rfl (lv_at hl 0 rfl) ?_
      refine lv_aload_n hx hb dX11_known_35 rfl (lv_at hl 0 rfl) ?_
      refine gM_0_18 hx hb hts hown hK hP (v := (σ.1 13)) rfl (hts _ kw_417) dX11_known_36 ?_
      refine lv_iconst (v := 0) hx hb dX11_known_39 (by decide) ?_
      obtain ⟨⟨r16, σ_r16⟩, h_r16, hf⟩ := bd_some hf
      refine cx_V (As := [.int (σ.1 13), .int 0]) (rest := []) cx (ct_mX11_reach l D C A adK adV hA h_r16) (cw_X11_311 hts ⟨Nat.le_of_ble_eq_true rfl, Nat.le_of_ble_eq_true rfl⟩) (va_recv hK hP (ci := 11) (q0 := 0) rfl (wM_0 A C _)) hP hS rfl hl.1 rfl (Nat.le_of_ble_eq_true rfl) dX11_known_40 ⟨Nat.zero_le _, Nat.zero_le _⟩ (fun H locs hP hS => ?_)
      refine lv_istore_n (lv' := [(2, .int r16), (0, .ref (A 0)), (1, .int x1)]) hx hb dX11_known_43 rfl hl (by decide) rfl (fun ls hl => ?_)
      refine lv_iconst (v := 0) hx hb dX11_known_44 (by decide) ?_
      refine lv_istore_n (lv' := [(3, .int 0), (2, .int r16), (0, .ref (A 0)), (1, .int x1)]) hx hb dX11_known_45 rfl hl (by decide) rfl (fun ls hl => ?_)
      exact w_F_mX11_known_46 hA cx FU _ _ _ _ _ _ _ hf (lv_sub hl [2, 3, 1, 0] rfl) hP hS
    · have hf := (if_neg c15).symm.trans hf
      refine lv_aload_n hx hb dX11_known_21 rfl (lv_at hl 0 rfl) ?_
      refine gM_0_54 hx hb hts hown hK hP (hts _ kw_182) dX11_known_22 ?_
      refine lv_iload_n hx hb dX11_known_25 rfl (lv_at hl 2 rfl) ?_
      refine lv_iconst (v := 0) hx hb dX11_known_26 (by decide) ?_
      obtain ⟨z17, hf⟩ := gd_some hf
      refine pM_a29 hx hb hK hP hA hS (ib_in z17) dX11_known_27 (fun H locs hP hS => ?_)
      refine lv_iinc (v := (x2 + 1)) (lv' := [(2, .int (x2 + 1)), (0, .ref (A 0)), (1, .int x1)]) hx hb dX11_known_28 hl (k := 2) rfl rfl (by decide) rfl (fun ls hl => ?_)
      refine lv_goto (tgt := 13) hx hb dX11_known_31 (by decide) ?_
      have hP : va_P D vwCl (wM A C (sA σ 29 (upd (σ.2.1 29) x2.toNatClampNeg 0))) H := hP
      exact ih _ _ _ _ _ _ hf (lv_sub hl [1, 2, 0] rfl) hP hS
set_option maxHeartbeats 4000000 in
set_option maxRecDepth 100000 in
theorem ct_mX11_known (l : Launch) (D : va_G) (C : Nat → ClassId) (A adK adV : Nat → Nat) (hA : apA A 33) {x1 : Int32} {σ : St} {res : (Int32 × St)} (hf : F_mX11_known x1 σ = some res) : Met l yX11_known (Cond.code yX11_known cX11_known 7 (some .int) :: wsL_law) rm_X11_known (Pcx D C (wM A C) adK adV (fxA A 33) [.ref (A 0), .int x1] σ) (Qcx D (wM A C) (fxA A 33) (some (.int res.1)) res.2) 0 0 (fxA A 33) := by
  refine Met.ofW (cc := cX11_known) (maxL := 7) (ret := (some .int)) (by decide) rfl ?_
  intro p e s m args below meth c s₁ B hml hv
  obtain ⟨rfl, hP, hK, hZ⟩ := hv
  have cx : Cxx D C adK adV (fxA A 33) p s m _ meth c cX11_known 7 RX11 (some .int) := ⟨B.exec, B.bytes, hml, findClass_of_methodNamed B.named, fun w h => atoms_spec (ws := Cond.code yX11_known cX11_known 7 (some .int) :: wsL_law) B.pre w (List.mem_cons_of_mem _ h), hK, B.returns, B.notSynchronized, hZ⟩
  obtain ⟨hx, hb, -, hown, hts, -, hr, hlk, -⟩ := id cx
  have hS : va_S (fxA A 33) s.heap s.heap [] := va_S.rf
  have hl := lv_entry ([.ref (A 0), .int x1]) (n := 7) (Nat.le_of_ble_eq_true rfl)
  rw [lg_entry_eq]
  generalize (lg_sl ([.ref (A 0), .int x1]) ++ List.replicate (7 - (lg_sl ([.ref (A 0), .int x1])).length) Slot.unset).toArray = ls at hl ⊢
  have hl : lv_has ls 7 [(0, .ref (A 0)), (1, .int x1)] := hl
  show W p l e rm_X11_known s m _ below meth c s.heap [] 0 0 _ _
  refine lv_aload_n hx hb dX11_known_0 rfl (lv_at hl 0 rfl) ?_
  refine lv_iload_n hx hb dX11_known_1 rfl (lv_at hl 1 rfl) ?_
  obtain ⟨⟨r18, σ_r18⟩, h_r18, hf⟩ := bd_some hf
  refine cx_V (As := [.int x1]) (rest := []) cx (ct_mX11_isName l D C A adK adV hA h_r18) (cw_X11_241 hts ⟨Nat.le_of_ble_eq_true rfl, Nat.le_of_ble_eq_true rfl⟩) (va_recv hK hP (ci := 11) (q0 := 0) rfl (wM_0 A C _)) hP hS rfl hl.1 rfl (Nat.le_of_ble_eq_true rfl) dX11_known_2 ⟨Nat.zero_le _, Nat.zero_le _⟩ (fun H locs hP hS => ?_)
  refine lv_if_ne (tgt := 11) hx hb dX11_known_5 (by decide) (fun c19 => ?_) (fun c19 => ?_)
  · have hf := (if_neg c19).symm.trans hf
    refine lv_iconst (v := 0) hx hb dX11_known_11 (by decide) ?_
    refine lv_istore_n (lv' := [(2, .int 0), (0, .ref (A 0)), (1, .int x1)]) hx hb dX11_known_12 rfl hl (by decide) rfl (fun ls hl => ?_)
    exact w_F_mX11_known_13 hA cx FU _ _ _ _ _ _ hf (lv_sub hl [1, 2, 0] rfl) hP hS
  · have hf := (if_pos c19).symm.trans hf
    refine lv_bipush (v := (-2)) hx hb dX11_known_8 (by decide) ?_
    exact cx_iret cx hP hS hf dX11_known_10
set_option maxHeartbeats 4000000 in
set_option maxRecDepth 100000 in
theorem ct_mX11_job (l : Launch) (D : va_G) (C : Nat → ClassId) (A adK adV : Nat → Nat) (hA : apA A 33) {x1 : Int32} {x2 : Int32} {σ : St} {res : (Int32 × St)} (hf : F_mX11_job x1 x2 σ = some res) : Met l yX11_job (Cond.code yX11_job cX11_job 3 (some .int) :: wsL_law) rm_X11_job (Pcx D C (wM A C) adK adV (fxA A 33) [.ref (A 0), .int x1, .int x2] σ) (Qcx D (wM A C) (fxA A 33) (some (.int res.1)) res.2) 0 0 (fxA A 33) := by
  refine Met.ofW (cc := cX11_job) (maxL := 3) (ret := (some .int)) (by decide) rfl ?_
  intro p e s m args below meth c s₁ B hml hv
  obtain ⟨rfl, hP, hK, hZ⟩ := hv
  have cx : Cxx D C adK adV (fxA A 33) p s m _ meth c cX11_job 3 RX11 (some .int) := ⟨B.exec, B.bytes, hml, findClass_of_methodNamed B.named, fun w h => atoms_spec (ws := Cond.code yX11_job cX11_job 3 (some .int) :: wsL_law) B.pre w (List.mem_cons_of_mem _ h), hK, B.returns, B.notSynchronized, hZ⟩
  obtain ⟨hx, hb, -, hown, hts, -, hr, hlk, -⟩ := id cx
  have hS : va_S (fxA A 33) s.heap s.heap [] := va_S.rf
  have hl := lv_entry ([.ref (A 0), .int x1, .int x2]) (n := 3) (Nat.le_of_ble_eq_true rfl)
  rw [lg_entry_eq]
  generalize (lg_sl ([.ref (A 0), .int x1, .int x2]) ++ List.replicate (3 - (lg_sl ([.ref (A 0), .int x1, .int x2])).length) Slot.unset).toArray = ls at hl ⊢
  have hl : lv_has ls 3 [(0, .ref (A 0)), (1, .int x1), (2, .int x2)] := hl
  show W p l e rm_X11_job s m _ below meth c s.heap [] 0 0 _ _
  refine lv_iload_n hx hb dX11_job_0 rfl (lv_at hl 1 rfl) ?_
  refine lv_iconst (v := 1) hx hb dX11_job_1 (by decide) ?_
  refine lv_sipush (v := 9999) hx hb dX11_job_2 (by decide) ?_
  obtain ⟨⟨r1, σ_r1⟩, h_r1, hf⟩ := bd_some hf
  refine cx_S (As := [.int x1, .int 1, .int 9999]) (rest := []) cx (ct_mX11_in l D C A adK adV hA h_r1) (cw_X11_181 hts ⟨Nat.le_of_ble_eq_true rfl, Nat.le_of_ble_eq_true rfl⟩) hP hS rfl hl.1 rfl (Nat.le_of_ble_eq_true rfl) dX11_job_5 ⟨Nat.zero_le _, Nat.zero_le _⟩ (fun H locs hP hS => ?_)
  refine lv_if_eq (tgt := 22) hx hb dX11_job_8 (by decide) (fun c2 => ?_) (fun c2 => ?_)
  · have hf := (if_pos c2).symm.trans hf
    refine lv_bipush (v := (-2)) hx hb dX11_job_22 (by decide) ?_
    exact cx_iret cx hP hS hf dX11_job_24
  · have hf := (if_neg c2).symm.trans hf
    refine lv_iload_n hx hb dX11_job_11 rfl (lv_at hl 2 rfl) ?_
    refine lv_iconst (v := 1) hx hb dX11_job_12 (by decide) ?_
    refine lv_ldcw (v := 99999) hx hb hown (hts _ kw_1089) dX11_job_13 ?_
    obtain ⟨⟨r3, σ_r3⟩, h_r3, hf⟩ := bd_some hf
    refine cx_S (As := [.int x2, .int 1, .int 99999]) (rest := []) cx (ct_mX11_in l D C A adK adV hA h_r3) (cw_X11_181 hts ⟨Nat.le_of_ble_eq_true rfl, Nat.le_of_ble_eq_true rfl⟩) hP hS rfl hl.1 rfl (Nat.le_of_ble_eq_true rfl) dX11_job_16 ⟨Nat.zero_le _, Nat.zero_le _⟩ (fun H locs hP hS => ?_)
    refine lv_if_ne (tgt := 25) hx hb dX11_job_19 (by decide) (fun c4 => ?_) (fun c4 => ?_)
    · have hf := (if_neg c4).symm.trans hf
      refine lv_aload_n hx hb dX11_job_25 rfl (lv_at hl 0 rfl) ?_
      refine gM_0_56 hx hb hts hown hK hP (v := (σ_r3.1 25)) rfl (hts _ kw_573) dX11_job_26 ?_
      refine lv_bipush (v := 8) hx hb dX11_job_29 (by decide) ?_
      refine lv_icmp_ne (tgt := 37) hx hb dX11_job_31 (by decide) (fun c5 => ?_) (fun c5 => ?_)
      · have hf := (if_neg c5).symm.trans hf
        refine lv_aload_n hx hb dX11_job_37 rfl (lv_at hl 0 rfl) ?_
        refine gM_0_57 hx hb hts hown hK hP (hts _ kw_184) dX11_job_38 ?_
        refine lv_aload_n hx hb dX11_job_41 rfl (lv_at hl 0 rfl) ?_
        refine gM_0_56 hx hb hts hown hK hP (v := (σ_r3.1 25)) rfl (hts _ kw_573) dX11_job_42 ?_
        refine lv_iload_n hx hb dX11_job_45 rfl (lv_at hl 1 rfl) ?_
        obtain ⟨z6, hf⟩ := gd_some hf
        refine pM_a31 hx hb hK hP hA hS (ib_in z6) dX11_job_46 (fun H locs hP hS => ?_)
        refine lv_aload_n hx hb dX11_job_47 rfl (lv_at hl 0 rfl) ?_
        refine gM_0_58 hx hb hts hown hK hP (hts _ kw_185) dX11_job_48 ?_
        refine lv_aload_n hx hb dX11_job_51 rfl (lv_at hl 0 rfl) ?_
        refine gM_0_56 hx hb hts hown hK hP (v := (σ_r3.1 25)) rfl (hts _ kw_573) dX11_job_52 ?_
        refine lv_iload_n hx hb dX11_job_55 rfl (lv_at hl 2 rfl) ?_
        refine pM_a32 hx hb hK hP hA hS (ib_in z6) dX11_job_56 (fun H locs hP hS => ?_)
        refine lv_aload_n hx hb dX11_job_57 rfl (lv_at hl 0 rfl) ?_
        refine lv_dup hx hb dX11_job_58 rfl ?_
        refine gM_0_56 hx hb hts hown hK hP (v := (σ_r3.1 25)) rfl (hts _ kw_573) dX11_job_59 ?_
        refine lv_iconst (v := 1) hx hb dX11_job_62 (by decide) ?_
        refine lv_iadd hx hb dX11_job_63 ?_
        refine pM_0_56 hx hb hts hown hK hP hA hS (hts _ kw_573) dX11_job_64 (fun H locs hP hS => ?_)
        refine lv_aload_n hx hb dX11_job_67 rfl (lv_at hl 0 rfl) ?_
        refine gM_0_56 hx hb hts hown hK hP (v := ((σ_r3.1 25) + 1)) rfl (hts _ kw_573) dX11_job_68 ?_
        refine lv_iconst (v := 1) hx hb dX11_job_71 (by decide) ?_
        refine lv_isub hx hb dX11_job_72 ?_
        have hP : va_P D vwCl (wM A C (sA (sA (sI σ_r3 25 ((σ_r3.1 25) + 1)) 31 (upd (σ_r3.2.1 31) (σ_r3.1 25).toNatClampNeg x1)) 32 (upd (σ_r3.2.1 32) (σ_r3.1 25).toNatClampNeg x2))) H := hP
        exact cx_iret cx hP hS hf dX11_job_73
      · have hf := (if_pos c5).symm.trans hf
        refine lv_bipush (v := (-3)) hx hb dX11_job_34 (by decide) ?_
        exact cx_iret cx hP hS hf dX11_job_36
    · have hf := (if_pos c4).symm.trans hf
      refine lv_bipush (v := (-2)) hx hb dX11_job_22 (by decide) ?_
      exact cx_iret cx hP hS hf dX11_job_24
set_option maxHeartbeats 4000000 in
set_option maxRecDepth 100000 in
theorem w_F_mX11_timeOf_15 {p : Program} {l : Launch} {e : Env} {s : State} {m : MethodId} {args : Array Value} {below : List Frame} {meth : Method} {c : Code} {D : va_G} {C : Nat → ClassId} {A adK adV : Nat → Nat} (hA : apA A 33) (cx : Cxx D C adK adV (fxA A 33) p s m args meth c cX11_timeOf 6 RX11 (some .int)) {res : (Int32 × St)} {b4 : Int32 → Int32 → Int32 → St → Option (Int32 × St)} (hb4 : ∀ (x1 : Int32) (x2 : Int32) (x3 : Int32) (σ : St) (H : Heap) (locs : List Loc) (ls : Array Slot), b4 x1 x2 x3 σ = some res → lv_has ls 6 [(0, .ref (A 0)), (1, .int x1), (2, .int x2), (3, .int x3)] → va_P D vwCl (wM A C σ) H → va_S (fxA A 33) s.heap H locs → W p l e rm_X11_timeOf s m args below meth c H locs 0 0 (MQ below (Qcx D (wM A C) (fxA A 33) (some (.int res.1)) res.2) args s 0 0 (fxA A 33)) (F0 m 4 ls [])) : ∀ (n : Nat), ∀ (x1 : Int32) (x2 : Int32) (x3 : Int32) (x4 : Int32) (x5 : Int32) (σ : St) (H : Heap) (locs : List Loc) (ls : Array Slot), F_mX11_timeOf_15 b4 n x1 x2 x3 x4 x5 σ = some res → lv_has ls 6 [(0, .ref (A 0)), (1, .int x1), (2, .int x2), (3, .int x3), (4, .int x4), (5, .int x5)] → va_P D vwCl (wM A C σ) H → va_S (fxA A 33) s.heap H locs → W p l e rm_X11_timeOf s m args below meth c H locs 0 0 (MQ below (Qcx D (wM A C) (fxA A 33) (some (.int res.1)) res.2) args s 0 0 (fxA A 33)) (F0 m 15 ls []) := by
  obtain ⟨hx, hb, hml, hown, hts, hK, hr, hlk, hZ⟩ := id cx
  intro n
  induction n with
  | zero =>
    intro x1 x2 x3 x4 x5 σ H locs ls hf hl hP hS
    exact absurd (show (none : Option (Int32 × St)) = some res from hf) (by intro h; cases h)
  | succ n ih =>
    intro x1 x2 x3 x4 x5 σ H locs ls hf hl hP hS
    refine lv_iload hx hb dX11_timeOf_15 (lv_at hl 5 rfl) ?_
    refine lv_aload_n hx hb dX11_timeOf_17 rfl (lv_at hl 0 rfl) ?_
    refine gM_0_56 hx hb hts hown hK hP (v := (σ.1 25)) rfl (hts _ kw_573) dX11_timeOf_18 ?_
    refine lv_icmp_ge (tgt := 76) hx hb dX11_timeOf_21 (by decide) (fun c1 => ?_) (fun c1 => ?_)
    · have hf := (if_pos c1).symm.trans hf
      refine lv_iload_n hx hb dX11_timeOf_76 rfl (lv_at hl 2 rfl) ?_
      refine lv_aload_n hx hb dX11_timeOf_77 rfl (lv_at hl 0 rfl) ?_
      refine gM_0_57 hx hb hts hown hK hP (hts _ kw_184) dX11_timeOf_78 ?_
      refine lv_iload hx hb dX11_timeOf_81 (lv_at hl 4 rfl) ?_
      obtain ⟨z2, hf⟩ := gd_some hf
      refine gM_a31 hx hb hK hP (ib_in z2) (v := (σ.2.1 31 x4.toNatClampNeg)) rfl dX11_timeOf_83 ?_
      refine lv_iadd hx hb dX11_timeOf_84 ?_
      refine lv_istore_n (lv' := [(2, .int (x2 + (σ.2.1 31 x4.toNatClampNeg))), (0, .ref (A 0)), (1, .int x1), (3, .int x3), (4, .int x4), (5, .int x5)]) hx hb dX11_timeOf_85 rfl hl (by decide) rfl (fun ls hl => ?_)
      refine lv_iload_n hx hb dX11_timeOf_86 rfl (lv_at hl 0 rfl) ?_
      refine lv_aload_n hx hb dX11_timeOf_87 rfl (lv_at hl 1 rfl) ?_
      refine gM_0_58 hx hb hts hown hK hP (hts _ kw_185) dX11_timeOf_88 ?_
      refine lv_iload hx hb dX11_timeOf_91 (lv_at hl 4 rfl) ?_
      refine gM_a32 hx hb hK hP (ib_in z2) (v := (σ.2.1 32 x4.toNatClampNeg)) rfl dX11_timeOf_93 ?_
      refine lv_icmp_le (tgt := 99) hx hb dX11_timeOf_94 (by decide) (fun c3 => ?_) (fun c3 => ?_)
      · have hf := (if_pos c3).symm.trans hf
        refine lv_iload_n hx hb dX11_timeOf_99 rfl (lv_at hl 3 rfl) ?_
        refine lv_iconst (v := 1) hx hb dX11_timeOf_100 (by decide) ?_
        refine lv_iload hx hb dX11_timeOf_101 (lv_at hl 4 rfl) ?_
        refine lv_ishl hx hb dX11_timeOf_103 ?_
        refine lv_ior hx hb dX11_timeOf_104 ?_
        refine lv_istore_n (lv' := [(3, .int (x3 ||| (1 <<< (x4 &&& 31)))), (2, .int (x2 + (σ.2.1 31 x4.toNatClampNeg))), (0, .ref (A 0)), (1, .int x1), (4, .int x4), (5, .int x5)]) hx hb dX11_timeOf_105 rfl hl (by decide) rfl (fun ls hl => ?_)
        refine lv_goto (tgt := 4) hx hb dX11_timeOf_106 (by decide) ?_
        exact hb4 _ _ _ _ _ _ _ hf (lv_sub hl [2, 3, 1, 0] rfl) hP hS
      · have hf := (if_neg c3).symm.trans hf
        refine lv_iconst (v := (-1)) hx hb dX11_timeOf_97 (by decide) ?_
        exact cx_iret cx hP hS hf dX11_timeOf_98
    · have hf := (if_neg c1).symm.trans hf
      refine lv_iload_n hx hb dX11_timeOf_24 rfl (lv_at hl 1 rfl) ?_
      refine lv_iload hx hb dX11_timeOf_25 (lv_at hl 5 rfl) ?_
      refine lv_ishr hx hb dX11_timeOf_27 ?_
      refine lv_iconst (v := 1) hx hb dX11_timeOf_28 (by decide) ?_
      refine lv_iand hx hb dX11_timeOf_29 ?_
      refine lv_iconst (v := 1) hx hb dX11_timeOf_30 (by decide) ?_
      refine lv_icmp_ne (tgt := 70) hx hb dX11_timeOf_31 (by decide) (fun c4 => ?_) (fun c4 => ?_)
      · have hf := (if_neg c4).symm.trans hf
        refine lv_iinc (v := (x5 + 1)) (lv' := [(5, .int (x5 + 1)), (0, .ref (A 0)), (1, .int x1), (2, .int x2), (3, .int x3), (4, .int x4)]) hx hb dX11_timeOf_70 hl (k := 5) rfl rfl (by decide) rfl (fun ls hl => ?_)
        refine lv_goto (tgt := 15) hx hb dX11_timeOf_73 (by decide) ?_
        exact ih _ _ _ _ _ _ _ _ _ hf (lv_sub hl [1, 2, 3, 4, 5, 0] rfl) hP hS
      · have hf := (if_pos c4).symm.trans hf
        refine lv_iload_n hx hb dX11_timeOf_34 rfl (lv_at hl 3 rfl) ?_
        refine lv_iload hx hb dX11_timeOf_35 (lv_at hl 5 rfl) ?_
        refine lv_ishr hx hb dX11_timeOf_37 ?_
        refine lv_iconst (v := 1) hx hb dX11_timeOf_38 (by decide) ?_
        refine lv_iand hx hb dX11_timeOf_39 ?_
        refine lv_if_ne (tgt := 70) hx hb dX11_timeOf_40 (by decide) (fun c5 => ?_) (fun c5 => ?_)
        · have hf := (if_neg c5).symm.trans hf
          refine lv_iinc (v := (x5 + 1)) (lv' := [(5, .int (x5 + 1)), (0, .ref (A 0)), (1, .int x1), (2, .int x2), (3, .int x3), (4, .int x4)]) hx hb dX11_timeOf_70 hl (k := 5) rfl rfl (by decide) rfl (fun ls hl => ?_)
          refine lv_goto (tgt := 15) hx hb dX11_timeOf_73 (by decide) ?_
          exact ih _ _ _ _ _ _ _ _ _ hf (lv_sub hl [1, 2, 3, 4, 5, 0] rfl) hP hS
        · have hf := (if_pos c5).symm.trans hf
          refine lv_iload hx hb dX11_timeOf_43 (lv_at hl 4 rfl) ?_
          refine lv_iconst (v := (-1)) hx hb dX11_timeOf_45 (by decide) ?_
          refine lv_icmp_eq (tgt := 66) hx hb dX11_timeOf_46 (by decide) (fun c6 => ?_) (fun c6 => ?_)
          · have hf := (if_pos c6).symm.trans hf
            refine lv_iload hx hb dX11_timeOf_66 (lv_at hl 5 rfl) ?_
            refine lv_istore (lv' := [(4, .int x5), (0, .ref (A 0)), (1, .int x1), (2, .int x2), (3, .int x3), (5, .int x5)]) hx hb dX11_timeOf_68 hl (by decide) rfl (fun ls hl => ?_)
            refine lv_iinc (v := (x5 + 1)) (lv' := [(5, .int (x5 + 1)), (4, .int x5), (0, .ref (A 0)), (1, .int x1), (2, .int x2), (3, .int x3)]) hx hb dX11_timeOf_70 hl (k := 5) rfl rfl (by decide) rfl (fun ls hl => ?_)
            refine lv_goto (tgt := 15) hx hb dX11_timeOf_73 (by decide) ?_
            exact ih _ _ _ _ _ _ _ _ _ hf (lv_sub hl [2, 3, 4, 5, 1, 0] rfl) hP hS
          · have hf := (if_neg c6).symm.trans hf
            refine lv_aload_n hx hb dX11_timeOf_49 rfl (lv_at hl 0 rfl) ?_
            refine gM_0_58 hx hb hts hown hK hP (hts _ kw_185) dX11_timeOf_50 ?_
            refine lv_iload hx hb dX11_timeOf_53 (lv_at hl 5 rfl) ?_
            obtain ⟨z7, hf⟩ := gd_some hf
            refine gM_a32 hx hb hK hP (ib_in z7) (v := (σ.2.1 32 x5.toNatClampNeg)) rfl dX11_timeOf_55 ?_
            refine lv_aload_n hx hb dX11_timeOf_56 rfl (lv_at hl 0 rfl) ?_
            refine gM_0_58 hx hb hts hown hK hP (hts _ kw_185) dX11_timeOf_57 ?_
            refine lv_iload hx hb dX11_timeOf_60 (lv_at hl 4 rfl) ?_
            obtain ⟨z8, hf⟩ := gd_some hf
            refine gM_a32 hx hb hK hP (ib_in z8) (v := (σ.2.1 32 x4.toNatClampNeg)) rfl dX11_timeOf_62 ?_
            refine lv_icmp_ge (tgt := 70) hx hb dX11_timeOf_63 (by decide) (fun c9 => ?_) (fun c9 => ?_)
            · have hf := (if_pos c9).symm.trans hf
              refine lv_iinc (v := (x5 + 1)) (lv' := [(5, .int (x5 + 1)), (0, .ref (A 0)), (1, .int x1), (2, .int x2), (3, .int x3), (4, .int x4)]) hx hb dX11_timeOf_70 hl (k := 5) rfl rfl (by decide) rfl (fun ls hl => ?_)
              refine lv_goto (tgt := 15) hx hb dX11_timeOf_73 (by decide) ?_
              exact ih _ _ _ _ _ _ _ _ _ hf (lv_sub hl [1, 2, 3, 4, 5, 0] rfl) hP hS
            · have hf := (if_neg c9).symm.trans hf
              refine lv_iload hx hb dX11_timeOf_66 (lv_at hl 5 rfl) ?_
              refine lv_istore (lv' := [(4, .int x5), (0, .ref (A 0)), (1, .int x1), (2, .int x2), (3, .int x3), (5, .int x5)]) hx hb dX11_timeOf_68 hl (by decide) rfl (fun ls hl => ?_)
              refine lv_iinc (v := (x5 + 1)) (lv' := [(5, .int (x5 + 1)), (4, .int x5), (0, .ref (A 0)), (1, .int x1), (2, .int x2), (3, .int x3)]) hx hb dX11_timeOf_70 hl (k := 5) rfl rfl (by decide) rfl (fun ls hl => ?_)
              refine lv_goto (tgt := 15) hx hb dX11_timeOf_73 (by decide) ?_
              exact ih _ _ _ _ _ _ _ _ _ hf (lv_sub hl [2, 3, 4, 5, 1, 0] rfl) hP hS
set_option maxHeartbeats 4000000 in
set_option maxRecDepth 100000 in
theorem w_F_mX11_timeOf_4 {p : Program} {l : Launch} {e : Env} {s : State} {m : MethodId} {args : Array Value} {below : List Frame} {meth : Method} {c : Code} {D : va_G} {C : Nat → ClassId} {A adK adV : Nat → Nat} (hA : apA A 33) (cx : Cxx D C adK adV (fxA A 33) p s m args meth c cX11_timeOf 6 RX11 (some .int)) {res : (Int32 × St)} : ∀ (n : Nat), ∀ (x1 : Int32) (x2 : Int32) (x3 : Int32) (σ : St) (H : Heap) (locs : List Loc) (ls : Array Slot), F_mX11_timeOf_4 n x1 x2 x3 σ = some res → lv_has ls 6 [(0, .ref (A 0)), (1, .int x1), (2, .int x2), (3, .int x3)] → va_P D vwCl (wM A C σ) H → va_S (fxA A 33) s.heap H locs → W p l e rm_X11_timeOf s m args below meth c H locs 0 0 (MQ below (Qcx D (wM A C) (fxA A 33) (some (.int res.1)) res.2) args s 0 0 (fxA A 33)) (F0 m 4 ls []) := by
  obtain ⟨hx, hb, hml, hown, hts, hK, hr, hlk, hZ⟩ := id cx
  intro n
  induction n with
  | zero =>
    intro x1 x2 x3 σ H locs ls hf hl hP hS
    exact absurd (show (none : Option (Int32 × St)) = some res from hf) (by intro h; cases h)
  | succ n ih =>
    intro x1 x2 x3 σ H locs ls hf hl hP hS
    refine lv_iload_n hx hb dX11_timeOf_4 rfl (lv_at hl 3 rfl) ?_
    refine lv_iload_n hx hb dX11_timeOf_5 rfl (lv_at hl 1 rfl) ?_
    refine lv_icmp_eq (tgt := 109) hx hb dX11_timeOf_6 (by decide) (fun c10 => ?_) (fun c10 => ?_)
    · have hf := (if_pos c10).symm.trans hf
      refine lv_iload_n hx hb dX11_timeOf_109 rfl (lv_at hl 2 rfl) ?_
      exact cx_iret cx hP hS hf dX11_timeOf_110
    · have hf := (if_neg c10).symm.trans hf
      refine lv_iconst (v := (-1)) hx hb dX11_timeOf_9 (by decide) ?_
      refine lv_istore (lv' := [(4, .int (-1)), (0, .ref (A 0)), (1, .int x1), (2, .int x2), (3, .int x3)]) hx hb dX11_timeOf_10 hl (by decide) rfl (fun ls hl => ?_)
      refine lv_iconst (v := 0) hx hb dX11_timeOf_12 (by decide) ?_
      refine lv_istore (lv' := [(5, .int 0), (4, .int (-1)), (0, .ref (A 0)), (1, .int x1), (2, .int x2), (3, .int x3)]) hx hb dX11_timeOf_13 hl (by decide) rfl (fun ls hl => ?_)
      exact w_F_mX11_timeOf_15 hA cx ih FU _ _ _ _ _ _ _ _ _ hf (lv_sub hl [2, 3, 4, 5, 1, 0] rfl) hP hS
set_option maxHeartbeats 4000000 in
set_option maxRecDepth 100000 in
theorem ct_mX11_timeOf (l : Launch) (D : va_G) (C : Nat → ClassId) (A adK adV : Nat → Nat) (hA : apA A 33) {x1 : Int32} {σ : St} {res : (Int32 × St)} (hf : F_mX11_timeOf x1 σ = some res) : Met l yX11_timeOf (Cond.code yX11_timeOf cX11_timeOf 6 (some .int) :: wsL_law) rm_X11_timeOf (Pcx D C (wM A C) adK adV (fxA A 33) [.ref (A 0), .int x1] σ) (Qcx D (wM A C) (fxA A 33) (some (.int res.1)) res.2) 0 0 (fxA A 33) := by
  refine Met.ofW (cc := cX11_timeOf) (maxL := 6) (ret := (some .int)) (by decide) rfl ?_
  intro p e s m args below meth c s₁ B hml hv
  obtain ⟨rfl, hP, hK, hZ⟩ := hv
  have cx : Cxx D C adK adV (fxA A 33) p s m _ meth c cX11_timeOf 6 RX11 (some .int) := ⟨B.exec, B.bytes, hml, findClass_of_methodNamed B.named, fun w h => atoms_spec (ws := Cond.code yX11_timeOf cX11_timeOf 6 (some .int) :: wsL_law) B.pre w (List.mem_cons_of_mem _ h), hK, B.returns, B.notSynchronized, hZ⟩
  obtain ⟨hx, hb, -, hown, hts, -, hr, hlk, -⟩ := id cx
  have hS : va_S (fxA A 33) s.heap s.heap [] := va_S.rf
  have hl := lv_entry ([.ref (A 0), .int x1]) (n := 6) (Nat.le_of_ble_eq_true rfl)
  rw [lg_entry_eq]
  generalize (lg_sl ([.ref (A 0), .int x1]) ++ List.replicate (6 - (lg_sl ([.ref (A 0), .int x1])).length) Slot.unset).toArray = ls at hl ⊢
  have hl : lv_has ls 6 [(0, .ref (A 0)), (1, .int x1)] := hl
  show W p l e rm_X11_timeOf s m _ below meth c s.heap [] 0 0 _ _
  refine lv_iconst (v := 0) hx hb dX11_timeOf_0 (by decide) ?_
  refine lv_istore_n (lv' := [(2, .int 0), (0, .ref (A 0)), (1, .int x1)]) hx hb dX11_timeOf_1 rfl hl (by decide) rfl (fun ls hl => ?_)
  refine lv_iconst (v := 0) hx hb dX11_timeOf_2 (by decide) ?_
  refine lv_istore_n (lv' := [(3, .int 0), (2, .int 0), (0, .ref (A 0)), (1, .int x1)]) hx hb dX11_timeOf_3 rfl hl (by decide) rfl (fun ls hl => ?_)
  exact w_F_mX11_timeOf_4 hA cx FU _ _ _ _ _ _ _ hf (lv_sub hl [2, 3, 1, 0] rfl) hP hS
set_option maxHeartbeats 4000000 in
set_option maxRecDepth 100000 in
theorem w_F_mX11_night_34 {p : Program} {l : Launch} {e : Env} {s : State} {m : MethodId} {args : Array Value} {below : List Frame} {meth : Method} {c : Code} {D : va_G} {C : Nat → ClassId} {A adK adV : Nat → Nat} (hA : apA A 33) (cx : Cxx D C adK adV (fxA A 33) p s m args meth c cX11_night 8 RX11 (some .int)) {res : (Int32 × St)} {b9 : Int32 → Int32 → Int32 → Int32 → St → Option (Int32 × St)} (hb9 : ∀ (x1 : Int32) (x2 : Int32) (x3 : Int32) (x4 : Int32) (σ : St) (H : Heap) (locs : List Loc) (ls : Array Slot), b9 x1 x2 x3 x4 σ = some res → lv_has ls 8 [(0, .ref (A 0)), (1, .int x1), (2, .int x2), (3, .int x3), (4, .int x4)] → va_P D vwCl (wM A C σ) H → va_S (fxA A 33) s.heap H locs → W p l e rm_X11_night s m args below meth c H locs 0 0 (MQ below (Qcx D (wM A C) (fxA A 33) (some (.int res.1)) res.2) args s 0 0 (fxA A 33)) (F0 m 9 ls [])) : ∀ (n : Nat), ∀ (x1 : Int32) (x2 : Int32) (x3 : Int32) (x4 : Int32) (x5 : Int32) (x6 : Int32) (x7 : Int32) (σ : St) (H : Heap) (locs : List Loc) (ls : Array Slot), F_mX11_night_34 b9 n x1 x2 x3 x4 x5 x6 x7 σ = some res → lv_has ls 8 [(0, .ref (A 0)), (1, .int x1), (2, .int x2), (3, .int x3), (4, .int x4), (5, .int x5), (6, .int x6), (7, .int x7)] → va_P D vwCl (wM A C σ) H → va_S (fxA A 33) s.heap H locs → W p l e rm_X11_night s m args below meth c H locs 0 0 (MQ below (Qcx D (wM A C) (fxA A 33) (some (.int res.1)) res.2) args s 0 0 (fxA A 33)) (F0 m 34 ls []) := by
  obtain ⟨hx, hb, hml, hown, hts, hK, hr, hlk, hZ⟩ := id cx
  intro n
  induction n with
  | zero =>
    intro x1 x2 x3 x4 x5 x6 x7 σ H locs ls hf hl hP hS
    exact absurd (show (none : Option (Int32 × St)) = some res from hf) (by intro h; cases h)
  | succ n ih =>
    intro x1 x2 x3 x4 x5 x6 x7 σ H locs ls hf hl hP hS
    refine lv_iload hx hb dX11_night_34 (lv_at hl 7 rfl) ?_
    refine lv_aload_n hx hb dX11_night_36 rfl (lv_at hl 0 rfl) ?_
    refine gM_0_56 hx hb hts hown hK hP (v := (σ.1 25)) rfl (hts _ kw_573) dX11_night_37 ?_
    refine lv_icmp_ge (tgt := 61) hx hb dX11_night_40 (by decide) (fun c1 => ?_) (fun c1 => ?_)
    · have hf := (if_pos c1).symm.trans hf
      refine lv_iload hx hb dX11_night_61 (lv_at hl 5 rfl) ?_
      refine lv_iconst (v := (-1)) hx hb dX11_night_63 (by decide) ?_
      refine lv_icmp_eq (tgt := 97) hx hb dX11_night_64 (by decide) (fun c2 => ?_) (fun c2 => ?_)
      · have hf := (if_pos c2).symm.trans hf
        refine lv_iinc (v := (x4 + 1)) (lv' := [(4, .int (x4 + 1)), (0, .ref (A 0)), (1, .int x1), (2, .int x2), (3, .int x3), (5, .int x5), (6, .int x6), (7, .int x7)]) hx hb dX11_night_97 hl (k := 4) rfl rfl (by decide) rfl (fun ls hl => ?_)
        refine lv_goto (tgt := 9) hx hb dX11_night_100 (by decide) ?_
        exact hb9 _ _ _ _ _ _ _ _ hf (lv_sub hl [1, 2, 3, 4, 0] rfl) hP hS
      · have hf := (if_neg c2).symm.trans hf
        refine lv_iload hx hb dX11_night_67 (lv_at hl 6 rfl) ?_
        refine lv_iload_n hx hb dX11_night_69 rfl (lv_at hl 2 rfl) ?_
        refine lv_icmp_lt (tgt := 97) hx hb dX11_night_70 (by decide) (fun c3 => ?_) (fun c3 => ?_)
        · have hf := (if_pos c3).symm.trans hf
          refine lv_iinc (v := (x4 + 1)) (lv' := [(4, .int (x4 + 1)), (0, .ref (A 0)), (1, .int x1), (2, .int x2), (3, .int x3), (5, .int x5), (6, .int x6), (7, .int x7)]) hx hb dX11_night_97 hl (k := 4) rfl rfl (by decide) rfl (fun ls hl => ?_)
          refine lv_goto (tgt := 9) hx hb dX11_night_100 (by decide) ?_
          exact hb9 _ _ _ _ _ _ _ _ hf (lv_sub hl [1, 2, 3, 4, 0] rfl) hP hS
        · have hf := (if_neg c3).symm.trans hf
          refine lv_iload hx hb dX11_night_73 (lv_at hl 6 rfl) ?_
          refine lv_iload_n hx hb dX11_night_75 rfl (lv_at hl 2 rfl) ?_
          refine lv_icmp_ne (tgt := 88) hx hb dX11_night_76 (by decide) (fun c4 => ?_) (fun c4 => ?_)
          · have hf := (if_neg c4).symm.trans hf
            refine lv_iload hx hb dX11_night_88 (lv_at hl 4 rfl) ?_
            refine lv_istore_n (lv' := [(1, .int x4), (0, .ref (A 0)), (2, .int x2), (3, .int x3), (4, .int x4), (5, .int x5), (6, .int x6), (7, .int x7)]) hx hb dX11_night_90 rfl hl (by decide) rfl (fun ls hl => ?_)
            refine lv_iload hx hb dX11_night_91 (lv_at hl 6 rfl) ?_
            refine lv_istore_n (lv' := [(2, .int x6), (1, .int x4), (0, .ref (A 0)), (3, .int x3), (4, .int x4), (5, .int x5), (6, .int x6), (7, .int x7)]) hx hb dX11_night_93 rfl hl (by decide) rfl (fun ls hl => ?_)
            refine lv_iload hx hb dX11_night_94 (lv_at hl 5 rfl) ?_
            refine lv_istore_n (lv' := [(3, .int x5), (2, .int x6), (1, .int x4), (0, .ref (A 0)), (4, .int x4), (5, .int x5), (6, .int x6), (7, .int x7)]) hx hb dX11_night_96 rfl hl (by decide) rfl (fun ls hl => ?_)
            refine lv_iinc (v := (x4 + 1)) (lv' := [(4, .int (x4 + 1)), (3, .int x5), (2, .int x6), (1, .int x4), (0, .ref (A 0)), (5, .int x5), (6, .int x6), (7, .int x7)]) hx hb dX11_night_97 hl (k := 4) rfl rfl (by decide) rfl (fun ls hl => ?_)
            refine lv_goto (tgt := 9) hx hb dX11_night_100 (by decide) ?_
            exact hb9 _ _ _ _ _ _ _ _ hf (lv_sub hl [4, 3, 2, 1, 0] rfl) hP hS
          · have hf := (if_pos c4).symm.trans hf
            refine lv_iload hx hb dX11_night_79 (lv_at hl 5 rfl) ?_
            refine lv_iload_n hx hb dX11_night_81 rfl (lv_at hl 3 rfl) ?_
            refine lv_icmp_lt (tgt := 88) hx hb dX11_night_82 (by decide) (fun c5 => ?_) (fun c5 => ?_)
            · have hf := (if_pos c5).symm.trans hf
              refine lv_iload hx hb dX11_night_88 (lv_at hl 4 rfl) ?_
              refine lv_istore_n (lv' := [(1, .int x4), (0, .ref (A 0)), (2, .int x2), (3, .int x3), (4, .int x4), (5, .int x5), (6, .int x6), (7, .int x7)]) hx hb dX11_night_90 rfl hl (by decide) rfl (fun ls hl => ?_)
              refine lv_iload hx hb dX11_night_91 (lv_at hl 6 rfl) ?_
              refine lv_istore_n (lv' := [(2, .int x6), (1, .int x4), (0, .ref (A 0)), (3, .int x3), (4, .int x4), (5, .int x5), (6, .int x6), (7, .int x7)]) hx hb dX11_night_93 rfl hl (by decide) rfl (fun ls hl => ?_)
              refine lv_iload hx hb dX11_night_94 (lv_at hl 5 rfl) ?_
              refine lv_istore_n (lv' := [(3, .int x5), (2, .int x6), (1, .int x4), (0, .ref (A 0)), (4, .int x4), (5, .int x5), (6, .int x6), (7, .int x7)]) hx hb dX11_night_96 rfl hl (by decide) rfl (fun ls hl => ?_)
              refine lv_iinc (v := (x4 + 1)) (lv' := [(4, .int (x4 + 1)), (3, .int x5), (2, .int x6), (1, .int x4), (0, .ref (A 0)), (5, .int x5), (6, .int x6), (7, .int x7)]) hx hb dX11_night_97 hl (k := 4) rfl rfl (by decide) rfl (fun ls hl => ?_)
              refine lv_goto (tgt := 9) hx hb dX11_night_100 (by decide) ?_
              exact hb9 _ _ _ _ _ _ _ _ hf (lv_sub hl [4, 3, 2, 1, 0] rfl) hP hS
            · have hf := (if_neg c5).symm.trans hf
              refine lv_goto (tgt := 97) hx hb dX11_night_85 (by decide) ?_
              refine lv_iinc (v := (x4 + 1)) (lv' := [(4, .int (x4 + 1)), (0, .ref (A 0)), (1, .int x1), (2, .int x2), (3, .int x3), (5, .int x5), (6, .int x6), (7, .int x7)]) hx hb dX11_night_97 hl (k := 4) rfl rfl (by decide) rfl (fun ls hl => ?_)
              refine lv_goto (tgt := 9) hx hb dX11_night_100 (by decide) ?_
              exact hb9 _ _ _ _ _ _ _ _ hf (lv_sub hl [1, 2, 3, 4, 0] rfl) hP hS
    · have hf := (if_neg c1).symm.trans hf
      refine lv_iload hx hb dX11_night_43 (lv_at hl 6 rfl) ?_
      refine lv_iload hx hb dX11_night_45 (lv_at hl 4 rfl) ?_
      refine lv_iload hx hb dX11_night_47 (lv_at hl 7 rfl) ?_
      refine lv_ishr hx hb dX11_night_49 ?_
      refine lv_iconst (v := 1) hx hb dX11_night_50 (by decide) ?_
      refine lv_iand hx hb dX11_night_51 ?_
      refine lv_iadd hx hb dX11_night_52 ?_
      refine lv_istore (lv' := [(6, .int (x6 + ((x4 >>> (x7 &&& 31)) &&& 1))), (0, .ref (A 0)), (1, .int x1), (2, .int x2), (3, .int x3), (4, .int x4), (5, .int x5), (7, .int x7)]) hx hb dX11_night_53 hl (by decide) rfl (fun ls hl => ?_)
      refine lv_iinc (v := (x7 + 1)) (lv' := [(7, .int (x7 + 1)), (6, .int (x6 + ((x4 >>> (x7 &&& 31)) &&& 1))), (0, .ref (A 0)), (1, .int x1), (2, .int x2), (3, .int x3), (4, .int x4), (5, .int x5)]) hx hb dX11_night_55 hl (k := 7) rfl rfl (by decide) rfl (fun ls hl => ?_)
      refine lv_goto (tgt := 34) hx hb dX11_night_58 (by decide) ?_
      exact ih _ _ _ _ _ _ _ _ _ _ _ hf (lv_sub hl [2, 3, 4, 5, 6, 7, 1, 0] rfl) hP hS
set_option maxHeartbeats 4000000 in
set_option maxRecDepth 100000 in
theorem w_F_mX11_night_9 {p : Program} {l : Launch} {e : Env} {s : State} {m : MethodId} {args : Array Value} {below : List Frame} {meth : Method} {c : Code} {D : va_G} {C : Nat → ClassId} {A adK adV : Nat → Nat} (hA : apA A 33) (cx : Cxx D C adK adV (fxA A 33) p s m args meth c cX11_night 8 RX11 (some .int)) {res : (Int32 × St)} : ∀ (n : Nat), ∀ (x1 : Int32) (x2 : Int32) (x3 : Int32) (x4 : Int32) (σ : St) (H : Heap) (locs : List Loc) (ls : Array Slot), F_mX11_night_9 n x1 x2 x3 x4 σ = some res → lv_has ls 8 [(0, .ref (A 0)), (1, .int x1), (2, .int x2), (3, .int x3), (4, .int x4)] → va_P D vwCl (wM A C σ) H → va_S (fxA A 33) s.heap H locs → W p l e rm_X11_night s m args below meth c H locs 0 0 (MQ below (Qcx D (wM A C) (fxA A 33) (some (.int res.1)) res.2) args s 0 0 (fxA A 33)) (F0 m 9 ls []) := by
  obtain ⟨hx, hb, hml, hown, hts, hK, hr, hlk, hZ⟩ := id cx
  intro n
  induction n with
  | zero =>
    intro x1 x2 x3 x4 σ H locs ls hf hl hP hS
    exact absurd (show (none : Option (Int32 × St)) = some res from hf) (by intro h; cases h)
  | succ n ih =>
    intro x1 x2 x3 x4 σ H locs ls hf hl hP hS
    refine lv_iload hx hb dX11_night_9 (lv_at hl 4 rfl) ?_
    refine lv_iconst (v := 1) hx hb dX11_night_11 (by decide) ?_
    refine lv_aload_n hx hb dX11_night_12 rfl (lv_at hl 0 rfl) ?_
    refine gM_0_56 hx hb hts hown hK hP (v := (σ.1 25)) rfl (hts _ kw_573) dX11_night_13 ?_
    refine lv_ishl hx hb dX11_night_16 ?_
    refine lv_icmp_ge (tgt := 103) hx hb dX11_night_17 (by decide) (fun c6 => ?_) (fun c6 => ?_)
    · have hf := (if_pos c6).symm.trans hf
      refine lv_iload_n hx hb dX11_night_103 rfl (lv_at hl 1 rfl) ?_
      exact cx_iret cx hP hS hf dX11_night_104
    · have hf := (if_neg c6).symm.trans hf
      refine lv_aload_n hx hb dX11_night_20 rfl (lv_at hl 0 rfl) ?_
      refine lv_iload hx hb dX11_night_21 (lv_at hl 4 rfl) ?_
      obtain ⟨⟨r7, σ_r7⟩, h_r7, hf⟩ := bd_some hf
      refine cx_V (As := [.int x4]) (rest := []) cx (ct_mX11_timeOf l D C A adK adV hA h_r7) (cw_X11_315 hts ⟨Nat.le_of_ble_eq_true rfl, Nat.le_of_ble_eq_true rfl⟩) (va_recv hK hP (ci := 11) (q0 := 0) rfl (wM_0 A C _)) hP hS rfl hl.1 rfl (Nat.le_of_ble_eq_true rfl) dX11_night_23 ⟨Nat.zero_le _, Nat.zero_le _⟩ (fun H locs hP hS => ?_)
      refine lv_istore (lv' := [(5, .int r7), (0, .ref (A 0)), (1, .int x1), (2, .int x2), (3, .int x3), (4, .int x4)]) hx hb dX11_night_26 hl (by decide) rfl (fun ls hl => ?_)
      refine lv_iconst (v := 0) hx hb dX11_night_28 (by decide) ?_
      refine lv_istore (lv' := [(6, .int 0), (5, .int r7), (0, .ref (A 0)), (1, .int x1), (2, .int x2), (3, .int x3), (4, .int x4)]) hx hb dX11_night_29 hl (by decide) rfl (fun ls hl => ?_)
      refine lv_iconst (v := 0) hx hb dX11_night_31 (by decide) ?_
      refine lv_istore (lv' := [(7, .int 0), (6, .int 0), (5, .int r7), (0, .ref (A 0)), (1, .int x1), (2, .int x2), (3, .int x3), (4, .int x4)]) hx hb dX11_night_32 hl (by decide) rfl (fun ls hl => ?_)
      exact w_F_mX11_night_34 hA cx ih FU _ _ _ _ _ _ _ _ _ _ _ hf (lv_sub hl [3, 4, 5, 6, 7, 2, 1, 0] rfl) hP hS
set_option maxHeartbeats 4000000 in
set_option maxRecDepth 100000 in
theorem ct_mX11_night (l : Launch) (D : va_G) (C : Nat → ClassId) (A adK adV : Nat → Nat) (hA : apA A 33)  {σ : St} {res : (Int32 × St)} (hf : F_mX11_night σ = some res) : Met l yX11_night (Cond.code yX11_night cX11_night 8 (some .int) :: wsL_law) rm_X11_night (Pcx D C (wM A C) adK adV (fxA A 33) [.ref (A 0)] σ) (Qcx D (wM A C) (fxA A 33) (some (.int res.1)) res.2) 0 0 (fxA A 33) := by
  refine Met.ofW (cc := cX11_night) (maxL := 8) (ret := (some .int)) (by decide) rfl ?_
  intro p e s m args below meth c s₁ B hml hv
  obtain ⟨rfl, hP, hK, hZ⟩ := hv
  have cx : Cxx D C adK adV (fxA A 33) p s m _ meth c cX11_night 8 RX11 (some .int) := ⟨B.exec, B.bytes, hml, findClass_of_methodNamed B.named, fun w h => atoms_spec (ws := Cond.code yX11_night cX11_night 8 (some .int) :: wsL_law) B.pre w (List.mem_cons_of_mem _ h), hK, B.returns, B.notSynchronized, hZ⟩
  obtain ⟨hx, hb, -, hown, hts, -, hr, hlk, -⟩ := id cx
  have hS : va_S (fxA A 33) s.heap s.heap [] := va_S.rf
  have hl := lv_entry ([.ref (A 0)]) (n := 8) (Nat.le_of_ble_eq_true rfl)
  rw [lg_entry_eq]
  generalize (lg_sl ([.ref (A 0)]) ++ List.replicate (8 - (lg_sl ([.ref (A 0)])).length) Slot.unset).toArray = ls at hl ⊢
  have hl : lv_has ls 8 [(0, .ref (A 0))] := hl
  show W p l e rm_X11_night s m _ below meth c s.heap [] 0 0 _ _
  refine lv_iconst (v := 0) hx hb dX11_night_0 (by decide) ?_
  refine lv_istore_n (lv' := [(1, .int 0), (0, .ref (A 0))]) hx hb dX11_night_1 rfl hl (by decide) rfl (fun ls hl => ?_)
  refine lv_iconst (v := 0) hx hb dX11_night_2 (by decide) ?_
  refine lv_istore_n (lv' := [(2, .int 0), (1, .int 0), (0, .ref (A 0))]) hx hb dX11_night_3 rfl hl (by decide) rfl (fun ls hl => ?_)
  refine lv_iconst (v := 0) hx hb dX11_night_4 (by decide) ?_
  refine lv_istore_n (lv' := [(3, .int 0), (2, .int 0), (1, .int 0), (0, .ref (A 0))]) hx hb dX11_night_5 rfl hl (by decide) rfl (fun ls hl => ?_)
  refine lv_iconst (v := 1) hx hb dX11_night_6 (by decide) ?_
  refine lv_istore (lv' := [(4, .int 1), (3, .int 0), (2, .int 0), (1, .int 0), (0, .ref (A 0))]) hx hb dX11_night_7 hl (by decide) rfl (fun ls hl => ?_)
  exact w_F_mX11_night_9 hA cx FU _ _ _ _ _ _ _ _ hf (lv_sub hl [4, 3, 2, 1, 0] rfl) hP hS
set_option maxHeartbeats 4000000 in
set_option maxRecDepth 100000 in
theorem w_F_mX11_layFirst_34 {p : Program} {l : Launch} {e : Env} {s : State} {m : MethodId} {args : Array Value} {below : List Frame} {meth : Method} {c : Code} {D : va_G} {C : Nat → ClassId} {A adK adV : Nat → Nat} (hA : apA A 33) (cx : Cxx D C adK adV (fxA A 33) p s m args meth c cX11_layFirst 3 RX11 none) {res : St} {b26 : Int32 → Int32 → St → Option St} (hb26 : ∀ (x1 : Int32) (x2 : Int32) (σ : St) (H : Heap) (locs : List Loc) (ls : Array Slot), b26 x1 x2 σ = some res → lv_has ls 3 [(0, .ref (A 0)), (1, .int x1), (2, .int x2)] → va_P D vwCl (wM A C σ) H → va_S (fxA A 33) s.heap H locs → W p l e rm_X11_layFirst s m args below meth c H locs 0 0 (MQ below (Qcx D (wM A C) (fxA A 33) none res) args s 0 0 (fxA A 33)) (F0 m 26 ls [])) : ∀ (n : Nat), ∀ (x1 : Int32) (x2 : Int32) (σ : St) (H : Heap) (locs : List Loc) (ls : Array Slot), F_mX11_layFirst_34 b26 n x1 x2 σ = some res → lv_has ls 3 [(0, .ref (A 0)), (1, .int x1), (2, .int x2)] → va_P D vwCl (wM A C σ) H → va_S (fxA A 33) s.heap H locs → W p l e rm_X11_layFirst s m args below meth c H locs 0 0 (MQ below (Qcx D (wM A C) (fxA A 33) none res) args s 0 0 (fxA A 33)) (F0 m 34 ls []) := by
  obtain ⟨hx, hb, hml, hown, hts, hK, hr, hlk, hZ⟩ := id cx
  intro n
  induction n with
  | zero =>
    intro x1 x2 σ H locs ls hf hl hP hS
    exact absurd (show (none : Option St) = some res from hf) (by intro h; cases h)
  | succ n ih =>
    intro x1 x2 σ H locs ls hf hl hP hS
    refine lv_aload_n hx hb dX11_layFirst_34 rfl (lv_at hl 0 rfl) ?_
    refine lv_iload_n hx hb dX11_layFirst_35 rfl (lv_at hl 1 rfl) ?_
    obtain ⟨⟨r3, σ_r3⟩, h_r3, hf⟩ := bd_some hf
    refine cx_V (As := [.int x1]) (rest := []) cx (ct_mX11_isThere l D C A adK adV hA h_r3) (cw_X11_197 hts ⟨Nat.le_of_ble_eq_true rfl, Nat.le_of_ble_eq_true rfl⟩) (va_recv hK hP (ci := 11) (q0 := 0) rfl (wM_0 A C _)) hP hS rfl hl.1 rfl (Nat.le_of_ble_eq_true rfl) dX11_layFirst_36 ⟨Nat.zero_le _, Nat.zero_le _⟩ (fun H locs hP hS => ?_)
    refine lv_if_ne (tgt := 48) hx hb dX11_layFirst_39 (by decide) (fun c4 => ?_) (fun c4 => ?_)
    · have hf := (if_neg c4).symm.trans hf
      refine lv_aload_n hx hb dX11_layFirst_48 rfl (lv_at hl 0 rfl) ?_
      refine gM_0_23 hx hb hts hown hK hP (hts _ kw_160) dX11_layFirst_49 ?_
      refine lv_iload_n hx hb dX11_layFirst_52 rfl (lv_at hl 2 rfl) ?_
      refine lv_iload_n hx hb dX11_layFirst_53 rfl (lv_at hl 1 rfl) ?_
      obtain ⟨z5, hf⟩ := gd_some hf
      refine pM_a7 hx hb hK hP hA hS (ib_in z5) dX11_layFirst_54 (fun H locs hP hS => ?_)
      refine lv_iinc (v := (x1 + 1)) (lv' := [(1, .int (x1 + 1)), (0, .ref (A 0)), (2, .int x2)]) hx hb dX11_layFirst_55 hl (k := 1) rfl rfl (by decide) rfl (fun ls hl => ?_)
      refine lv_iinc (v := (x2 + 1)) (lv' := [(2, .int (x2 + 1)), (1, .int (x1 + 1)), (0, .ref (A 0))]) hx hb dX11_layFirst_58 hl (k := 2) rfl rfl (by decide) rfl (fun ls hl => ?_)
      refine lv_goto (tgt := 26) hx hb dX11_layFirst_61 (by decide) ?_
      have hP : va_P D vwCl (wM A C (sA σ_r3 7 (upd (σ_r3.2.1 7) x2.toNatClampNeg x1))) H := hP
      exact hb26 _ _ _ _ _ _ hf (lv_sub hl [2, 1, 0] rfl) hP hS
    · have hf := (if_pos c4).symm.trans hf
      refine lv_iinc (v := (x1 + 1)) (lv' := [(1, .int (x1 + 1)), (0, .ref (A 0)), (2, .int x2)]) hx hb dX11_layFirst_42 hl (k := 1) rfl rfl (by decide) rfl (fun ls hl => ?_)
      refine lv_goto (tgt := 34) hx hb dX11_layFirst_45 (by decide) ?_
      exact ih _ _ _ _ _ _ hf (lv_sub hl [1, 0, 2] rfl) hP hS
set_option maxHeartbeats 4000000 in
set_option maxRecDepth 100000 in
theorem w_F_mX11_layFirst_66 {p : Program} {l : Launch} {e : Env} {s : State} {m : MethodId} {args : Array Value} {below : List Frame} {meth : Method} {c : Code} {D : va_G} {C : Nat → ClassId} {A adK adV : Nat → Nat} (hA : apA A 33) (cx : Cxx D C adK adV (fxA A 33) p s m args meth c cX11_layFirst 3 RX11 none) {res : St} : ∀ (n : Nat), ∀ (x2 : Int32) (σ : St) (H : Heap) (locs : List Loc) (ls : Array Slot), F_mX11_layFirst_66 n x2 σ = some res → lv_has ls 3 [(0, .ref (A 0)), (2, .int x2)] → va_P D vwCl (wM A C σ) H → va_S (fxA A 33) s.heap H locs → W p l e rm_X11_layFirst s m args below meth c H locs 0 0 (MQ below (Qcx D (wM A C) (fxA A 33) none res) args s 0 0 (fxA A 33)) (F0 m 66 ls []) := by
  obtain ⟨hx, hb, hml, hown, hts, hK, hr, hlk, hZ⟩ := id cx
  intro n
  induction n with
  | zero =>
    intro x2 σ H locs ls hf hl hP hS
    exact absurd (show (none : Option St) = some res from hf) (by intro h; cases h)
  | succ n ih =>
    intro x2 σ H locs ls hf hl hP hS
    refine lv_iload_n hx hb dX11_layFirst_66 rfl (lv_at hl 1 rfl) ?_
    refine lv_iconst (v := 4) hx hb dX11_layFirst_67 (by decide) ?_
    refine lv_icmp_ge (tgt := 84) hx hb dX11_layFirst_68 (by decide) (fun c1 => ?_) (fun c1 => ?_)
    · have hf := (if_pos c1).symm.trans hf
      refine lv_aload_n hx hb dX11_layFirst_84 rfl (lv_at hl 0 rfl) ?_
      refine lv_iconst (v := 0) hx hb dX11_layFirst_85 (by decide) ?_
      refine pM_0_44 hx hb hts hown hK hP hA hS rfl rfl (hts _ kw_474) dX11_layFirst_86 (fun H locs hP hS => ?_)
      have hP : va_P D vwCl (wM A C (sI σ 23 0)) H := hP
      exact cx_vret cx hP hS hf dX11_layFirst_89
    · have hf := (if_neg c1).symm.trans hf
      refine lv_aload_n hx hb dX11_layFirst_71 rfl (lv_at hl 0 rfl) ?_
      refine gM_0_52 hx hb hts hown hK hP (hts _ kw_180) dX11_layFirst_72 ?_
      refine lv_iload_n hx hb dX11_layFirst_75 rfl (lv_at hl 1 rfl) ?_
      refine lv_iconst (v := 0) hx hb dX11_layFirst_76 (by decide) ?_
      obtain ⟨z2, hf⟩ := gd_some hf
      refine pM_a27 hx hb hK hP hA hS (ib_in z2) dX11_layFirst_77 (fun H locs hP hS => ?_)
      refine lv_iinc (v := (x2 + 1)) (lv' := [(2, .int (x2 + 1)), (0, .ref (A 0))]) hx hb dX11_layFirst_78 hl (k := 1) rfl rfl (by decide) rfl (fun ls hl => ?_)
      refine lv_goto (tgt := 66) hx hb dX11_layFirst_81 (by decide) ?_
      have hP : va_P D vwCl (wM A C (sA σ 27 (upd (σ.2.1 27) x2.toNatClampNeg (vp_nar .boolean 0)))) H := hP
      exact ih _ _ _ _ _ hf (lv_sub hl [1, 0] rfl) hP hS
set_option maxHeartbeats 4000000 in
set_option maxRecDepth 100000 in
theorem w_F_mX11_layFirst_26 {p : Program} {l : Launch} {e : Env} {s : State} {m : MethodId} {args : Array Value} {below : List Frame} {meth : Method} {c : Code} {D : va_G} {C : Nat → ClassId} {A adK adV : Nat → Nat} (hA : apA A 33) (cx : Cxx D C adK adV (fxA A 33) p s m args meth c cX11_layFirst 3 RX11 none) {res : St} : ∀ (n : Nat), ∀ (x1 : Int32) (x2 : Int32) (σ : St) (H : Heap) (locs : List Loc) (ls : Array Slot), F_mX11_layFirst_26 n x1 x2 σ = some res → lv_has ls 3 [(0, .ref (A 0)), (1, .int x1), (2, .int x2)] → va_P D vwCl (wM A C σ) H → va_S (fxA A 33) s.heap H locs → W p l e rm_X11_layFirst s m args below meth c H locs 0 0 (MQ below (Qcx D (wM A C) (fxA A 33) none res) args s 0 0 (fxA A 33)) (F0 m 26 ls []) := by
  obtain ⟨hx, hb, hml, hown, hts, hK, hr, hlk, hZ⟩ := id cx
  intro n
  induction n with
  | zero =>
    intro x1 x2 σ H locs ls hf hl hP hS
    exact absurd (show (none : Option St) = some res from hf) (by intro h; cases h)
  | succ n ih =>
    intro x1 x2 σ H locs ls hf hl hP hS
    refine lv_iload_n hx hb dX11_layFirst_26 rfl (lv_at hl 2 rfl) ?_
    refine lv_aload_n hx hb dX11_layFirst_27 rfl (lv_at hl 0 rfl) ?_
    refine gM_0_17 hx hb hts hown hK hP (v := (σ.1 12)) rfl (hts _ kw_416) dX11_layFirst_28 ?_
    refine lv_icmp_ge (tgt := 64) hx hb dX11_layFirst_31 (by decide) (fun c6 => ?_) (fun c6 => ?_)
    · have hf := (if_pos c6).symm.trans hf
      refine lv_iconst (v := 0) hx hb dX11_layFirst_64 (by decide) ?_
      refine lv_istore_n (lv' := [(2, .int 0), (0, .ref (A 0)), (1, .int x1)]) hx hb dX11_layFirst_65 rfl hl (by decide) rfl (fun ls hl => ?_)
      exact w_F_mX11_layFirst_66 hA cx FU _ _ _ _ _ hf (lv_sub hl [1, 0] rfl) hP hS
    · have hf := (if_neg c6).symm.trans hf
      exact w_F_mX11_layFirst_34 hA cx ih FU _ _ _ _ _ _ hf (lv_sub hl [0, 1, 2] rfl) hP hS
set_option maxHeartbeats 4000000 in
set_option maxRecDepth 100000 in
theorem w_F_mX11_layFirst_2 {p : Program} {l : Launch} {e : Env} {s : State} {m : MethodId} {args : Array Value} {below : List Frame} {meth : Method} {c : Code} {D : va_G} {C : Nat → ClassId} {A adK adV : Nat → Nat} (hA : apA A 33) (cx : Cxx D C adK adV (fxA A 33) p s m args meth c cX11_layFirst 3 RX11 none) {res : St} : ∀ (n : Nat), ∀ (x1 : Int32) (σ : St) (H : Heap) (locs : List Loc) (ls : Array Slot), F_mX11_layFirst_2 n x1 σ = some res → lv_has ls 3 [(0, .ref (A 0)), (1, .int x1)] → va_P D vwCl (wM A C σ) H → va_S (fxA A 33) s.heap H locs → W p l e rm_X11_layFirst s m args below meth c H locs 0 0 (MQ below (Qcx D (wM A C) (fxA A 33) none res) args s 0 0 (fxA A 33)) (F0 m 2 ls []) := by
  obtain ⟨hx, hb, hml, hown, hts, hK, hr, hlk, hZ⟩ := id cx
  intro n
  induction n with
  | zero =>
    intro x1 σ H locs ls hf hl hP hS
    exact absurd (show (none : Option St) = some res from hf) (by intro h; cases h)
  | succ n ih =>
    intro x1 σ H locs ls hf hl hP hS
    refine lv_iload_n hx hb dX11_layFirst_2 rfl (lv_at hl 1 rfl) ?_
    refine lv_sipush (v := 128) hx hb dX11_layFirst_3 (by decide) ?_
    refine lv_icmp_ge (tgt := 22) hx hb dX11_layFirst_6 (by decide) (fun c7 => ?_) (fun c7 => ?_)
    · have hf := (if_pos c7).symm.trans hf
      refine lv_iconst (v := 0) hx hb dX11_layFirst_22 (by decide) ?_
      refine lv_istore_n (lv' := [(1, .int 0), (0, .ref (A 0))]) hx hb dX11_layFirst_23 rfl hl (by decide) rfl (fun ls hl => ?_)
      refine lv_iconst (v := 0) hx hb dX11_layFirst_24 (by decide) ?_
      refine lv_istore_n (lv' := [(2, .int 0), (1, .int 0), (0, .ref (A 0))]) hx hb dX11_layFirst_25 rfl hl (by decide) rfl (fun ls hl => ?_)
      exact w_F_mX11_layFirst_26 hA cx FU _ _ _ _ _ _ hf (lv_sub hl [2, 1, 0] rfl) hP hS
    · have hf := (if_neg c7).symm.trans hf
      refine lv_aload_n hx hb dX11_layFirst_9 rfl (lv_at hl 0 rfl) ?_
      refine gM_0_16 hx hb hts hown hK hP (hts _ kw_156) dX11_layFirst_10 ?_
      refine lv_iload_n hx hb dX11_layFirst_13 rfl (lv_at hl 1 rfl) ?_
      refine lv_iconst (v := 0) hx hb dX11_layFirst_14 (by decide) ?_
      obtain ⟨z8, hf⟩ := gd_some hf
      refine pM_a4 hx hb hK hP hA hS (ib_in z8) dX11_layFirst_15 (fun H locs hP hS => ?_)
      refine lv_iinc (v := (x1 + 1)) (lv' := [(1, .int (x1 + 1)), (0, .ref (A 0))]) hx hb dX11_layFirst_16 hl (k := 1) rfl rfl (by decide) rfl (fun ls hl => ?_)
      refine lv_goto (tgt := 2) hx hb dX11_layFirst_19 (by decide) ?_
      have hP : va_P D vwCl (wM A C (sA σ 4 (upd (σ.2.1 4) x1.toNatClampNeg (vp_nar .boolean 0)))) H := hP
      exact ih _ _ _ _ _ hf (lv_sub hl [1, 0] rfl) hP hS
set_option maxHeartbeats 4000000 in
set_option maxRecDepth 100000 in
theorem ct_mX11_layFirst (l : Launch) (D : va_G) (C : Nat → ClassId) (A adK adV : Nat → Nat) (hA : apA A 33)  {σ : St} {res : St} (hf : F_mX11_layFirst σ = some res) : Met l yX11_layFirst (Cond.code yX11_layFirst cX11_layFirst 3 none :: wsL_law) rm_X11_layFirst (Pcx D C (wM A C) adK adV (fxA A 33) [.ref (A 0)] σ) (Qcx D (wM A C) (fxA A 33) none res) 0 0 (fxA A 33) := by
  refine Met.ofW (cc := cX11_layFirst) (maxL := 3) (ret := none) (by decide) rfl ?_
  intro p e s m args below meth c s₁ B hml hv
  obtain ⟨rfl, hP, hK, hZ⟩ := hv
  have cx : Cxx D C adK adV (fxA A 33) p s m _ meth c cX11_layFirst 3 RX11 none := ⟨B.exec, B.bytes, hml, findClass_of_methodNamed B.named, fun w h => atoms_spec (ws := Cond.code yX11_layFirst cX11_layFirst 3 none :: wsL_law) B.pre w (List.mem_cons_of_mem _ h), hK, B.returns, B.notSynchronized, hZ⟩
  obtain ⟨hx, hb, -, hown, hts, -, hr, hlk, -⟩ := id cx
  have hS : va_S (fxA A 33) s.heap s.heap [] := va_S.rf
  have hl := lv_entry ([.ref (A 0)]) (n := 3) (Nat.le_of_ble_eq_true rfl)
  rw [lg_entry_eq]
  generalize (lg_sl ([.ref (A 0)]) ++ List.replicate (3 - (lg_sl ([.ref (A 0)])).length) Slot.unset).toArray = ls at hl ⊢
  have hl : lv_has ls 3 [(0, .ref (A 0))] := hl
  show W p l e rm_X11_layFirst s m _ below meth c s.heap [] 0 0 _ _
  refine lv_iconst (v := 0) hx hb dX11_layFirst_0 (by decide) ?_
  refine lv_istore_n (lv' := [(1, .int 0), (0, .ref (A 0))]) hx hb dX11_layFirst_1 rfl hl (by decide) rfl (fun ls hl => ?_)
  exact w_F_mX11_layFirst_2 hA cx FU _ _ _ _ _ hf (lv_sub hl [1, 0] rfl) hP hS
set_option maxHeartbeats 4000000 in
set_option maxRecDepth 100000 in
theorem ct_mX11_see (l : Launch) (D : va_G) (C : Nat → ClassId) (A adK adV : Nat → Nat) (hA : apA A 33) {x1 : Int32} {σ : St} {res : (Int32 × St)} (hf : F_mX11_see x1 σ = some res) : Met l yX11_see (Cond.code yX11_see cX11_see 2 (some .int) :: wsL_law) rm_X11_see (Pcx D C (wM A C) adK adV (fxA A 33) [.ref (A 0), .int x1] σ) (Qcx D (wM A C) (fxA A 33) (some (.int res.1)) res.2) 0 0 (fxA A 33) := by
  refine Met.ofW (cc := cX11_see) (maxL := 2) (ret := (some .int)) (by decide) rfl ?_
  intro p e s m args below meth c s₁ B hml hv
  obtain ⟨rfl, hP, hK, hZ⟩ := hv
  have cx : Cxx D C adK adV (fxA A 33) p s m _ meth c cX11_see 2 RX11 (some .int) := ⟨B.exec, B.bytes, hml, findClass_of_methodNamed B.named, fun w h => atoms_spec (ws := Cond.code yX11_see cX11_see 2 (some .int) :: wsL_law) B.pre w (List.mem_cons_of_mem _ h), hK, B.returns, B.notSynchronized, hZ⟩
  obtain ⟨hx, hb, -, hown, hts, -, hr, hlk, -⟩ := id cx
  have hS : va_S (fxA A 33) s.heap s.heap [] := va_S.rf
  have hl := lv_entry ([.ref (A 0), .int x1]) (n := 2) (Nat.le_of_ble_eq_true rfl)
  rw [lg_entry_eq]
  generalize (lg_sl ([.ref (A 0), .int x1]) ++ List.replicate (2 - (lg_sl ([.ref (A 0), .int x1])).length) Slot.unset).toArray = ls at hl ⊢
  have hl : lv_has ls 2 [(0, .ref (A 0)), (1, .int x1)] := hl
  show W p l e rm_X11_see s m _ below meth c s.heap [] 0 0 _ _
  refine lv_iload_n hx hb dX11_see_0 rfl (lv_at hl 1 rfl) ?_
  refine lv_aload_n hx hb dX11_see_1 rfl (lv_at hl 0 rfl) ?_
  refine gM_0_2 hx hb hts hown hK hP (v := (σ.1 1)) rfl (hts _ kw_422) dX11_see_2 ?_
  refine lv_icmp_ge (tgt := 21) hx hb dX11_see_5 (by decide) (fun c1 => ?_) (fun c1 => ?_)
  · have hf := (if_pos c1).symm.trans hf
    refine lv_iconst (v := (-1)) hx hb dX11_see_21 (by decide) ?_
    exact cx_iret cx hP hS hf dX11_see_22
  · have hf := (if_neg c1).symm.trans hf
    refine lv_aload_n hx hb dX11_see_8 rfl (lv_at hl 0 rfl) ?_
    refine gM_0_0 hx hb hts hown hK hP (hts _ kw_152) dX11_see_9 ?_
    refine lv_iload_n hx hb dX11_see_12 rfl (lv_at hl 1 rfl) ?_
    obtain ⟨z2, hf⟩ := gd_some hf
    refine gM_a1 hx hb hK hP (ib_in z2) (v := (σ.2.1 1 x1.toNatClampNeg)) rfl dX11_see_13 ?_
    refine lv_sipush (v := 255) hx hb dX11_see_14 (by decide) ?_
    refine lv_iand hx hb dX11_see_17 ?_
    refine lv_goto (tgt := 22) hx hb dX11_see_18 (by decide) ?_
    exact cx_iret cx hP hS hf dX11_see_22
set_option maxHeartbeats 4000000 in
set_option maxRecDepth 100000 in
theorem ct_mX11_isDigit (l : Launch) (D : va_G) (C : Nat → ClassId) (A adK adV : Nat → Nat) (hA : apA A 33) {x0 : Int32} {σ : St} {res : (Int32 × St)} (hf : F_mX11_isDigit x0 σ = some res) : Met l yX11_isDigit (Cond.code yX11_isDigit cX11_isDigit 1 (some .boolean) :: wsL_law) rm_X11_isDigit (Pcx D C (wM A C) adK adV (fxA A 33) [.int x0] σ) (Qcx D (wM A C) (fxA A 33) (some (.int res.1)) res.2) 0 0 (fxA A 33) := by
  refine Met.ofW (cc := cX11_isDigit) (maxL := 1) (ret := (some .boolean)) (by decide) rfl ?_
  intro p e s m args below meth c s₁ B hml hv
  obtain ⟨rfl, hP, hK, hZ⟩ := hv
  have cx : Cxx D C adK adV (fxA A 33) p s m _ meth c cX11_isDigit 1 RX11 (some .boolean) := ⟨B.exec, B.bytes, hml, findClass_of_methodNamed B.named, fun w h => atoms_spec (ws := Cond.code yX11_isDigit cX11_isDigit 1 (some .boolean) :: wsL_law) B.pre w (List.mem_cons_of_mem _ h), hK, B.returns, B.notSynchronized, hZ⟩
  obtain ⟨hx, hb, -, hown, hts, -, hr, hlk, -⟩ := id cx
  have hS : va_S (fxA A 33) s.heap s.heap [] := va_S.rf
  have hl := lv_entry ([.int x0]) (n := 1) (Nat.le_of_ble_eq_true rfl)
  rw [lg_entry_eq]
  generalize (lg_sl ([.int x0]) ++ List.replicate (1 - (lg_sl ([.int x0])).length) Slot.unset).toArray = ls at hl ⊢
  have hl : lv_has ls 1 [(0, .int x0)] := hl
  show W p l e rm_X11_isDigit s m _ below meth c s.heap [] 0 0 _ _
  refine lv_iload_n hx hb dX11_isDigit_0 rfl (lv_at hl 0 rfl) ?_
  refine lv_bipush (v := 48) hx hb dX11_isDigit_1 (by decide) ?_
  refine lv_icmp_lt (tgt := 16) hx hb dX11_isDigit_3 (by decide) (fun c1 => ?_) (fun c1 => ?_)
  · have hf := (if_pos c1).symm.trans hf
    refine lv_iconst (v := 0) hx hb dX11_isDigit_16 (by decide) ?_
    exact cx_zret cx rfl hP hS hf dX11_isDigit_17
  · have hf := (if_neg c1).symm.trans hf
    refine lv_iload_n hx hb dX11_isDigit_6 rfl (lv_at hl 0 rfl) ?_
    refine lv_bipush (v := 57) hx hb dX11_isDigit_7 (by decide) ?_
    refine lv_icmp_gt (tgt := 16) hx hb dX11_isDigit_9 (by decide) (fun c2 => ?_) (fun c2 => ?_)
    · have hf := (if_pos c2).symm.trans hf
      refine lv_iconst (v := 0) hx hb dX11_isDigit_16 (by decide) ?_
      exact cx_zret cx rfl hP hS hf dX11_isDigit_17
    · have hf := (if_neg c2).symm.trans hf
      refine lv_iconst (v := 1) hx hb dX11_isDigit_12 (by decide) ?_
      refine lv_goto (tgt := 17) hx hb dX11_isDigit_13 (by decide) ?_
      exact cx_zret cx rfl hP hS hf dX11_isDigit_17
set_option maxHeartbeats 4000000 in
set_option maxRecDepth 100000 in
theorem ct_mX11_isSmall (l : Launch) (D : va_G) (C : Nat → ClassId) (A adK adV : Nat → Nat) (hA : apA A 33) {x0 : Int32} {σ : St} {res : (Int32 × St)} (hf : F_mX11_isSmall x0 σ = some res) : Met l yX11_isSmall (Cond.code yX11_isSmall cX11_isSmall 1 (some .boolean) :: wsL_law) rm_X11_isSmall (Pcx D C (wM A C) adK adV (fxA A 33) [.int x0] σ) (Qcx D (wM A C) (fxA A 33) (some (.int res.1)) res.2) 0 0 (fxA A 33) := by
  refine Met.ofW (cc := cX11_isSmall) (maxL := 1) (ret := (some .boolean)) (by decide) rfl ?_
  intro p e s m args below meth c s₁ B hml hv
  obtain ⟨rfl, hP, hK, hZ⟩ := hv
  have cx : Cxx D C adK adV (fxA A 33) p s m _ meth c cX11_isSmall 1 RX11 (some .boolean) := ⟨B.exec, B.bytes, hml, findClass_of_methodNamed B.named, fun w h => atoms_spec (ws := Cond.code yX11_isSmall cX11_isSmall 1 (some .boolean) :: wsL_law) B.pre w (List.mem_cons_of_mem _ h), hK, B.returns, B.notSynchronized, hZ⟩
  obtain ⟨hx, hb, -, hown, hts, -, hr, hlk, -⟩ := id cx
  have hS : va_S (fxA A 33) s.heap s.heap [] := va_S.rf
  have hl := lv_entry ([.int x0]) (n := 1) (Nat.le_of_ble_eq_true rfl)
  rw [lg_entry_eq]
  generalize (lg_sl ([.int x0]) ++ List.replicate (1 - (lg_sl ([.int x0])).length) Slot.unset).toArray = ls at hl ⊢
  have hl : lv_has ls 1 [(0, .int x0)] := hl
  show W p l e rm_X11_isSmall s m _ below meth c s.heap [] 0 0 _ _
  refine lv_iload_n hx hb dX11_isSmall_0 rfl (lv_at hl 0 rfl) ?_
  refine lv_bipush (v := 97) hx hb dX11_isSmall_1 (by decide) ?_
  refine lv_icmp_lt (tgt := 16) hx hb dX11_isSmall_3 (by decide) (fun c1 => ?_) (fun c1 => ?_)
  · have hf := (if_pos c1).symm.trans hf
    refine lv_iconst (v := 0) hx hb dX11_isSmall_16 (by decide) ?_
    exact cx_zret cx rfl hP hS hf dX11_isSmall_17
  · have hf := (if_neg c1).symm.trans hf
    refine lv_iload_n hx hb dX11_isSmall_6 rfl (lv_at hl 0 rfl) ?_
    refine lv_bipush (v := 122) hx hb dX11_isSmall_7 (by decide) ?_
    refine lv_icmp_gt (tgt := 16) hx hb dX11_isSmall_9 (by decide) (fun c2 => ?_) (fun c2 => ?_)
    · have hf := (if_pos c2).symm.trans hf
      refine lv_iconst (v := 0) hx hb dX11_isSmall_16 (by decide) ?_
      exact cx_zret cx rfl hP hS hf dX11_isSmall_17
    · have hf := (if_neg c2).symm.trans hf
      refine lv_iconst (v := 1) hx hb dX11_isSmall_12 (by decide) ?_
      refine lv_goto (tgt := 17) hx hb dX11_isSmall_13 (by decide) ?_
      exact cx_zret cx rfl hP hS hf dX11_isSmall_17
set_option maxHeartbeats 4000000 in
set_option maxRecDepth 100000 in
theorem w_F_mX11_scan_75 {p : Program} {l : Launch} {e : Env} {s : State} {m : MethodId} {args : Array Value} {below : List Frame} {meth : Method} {c : Code} {D : va_G} {C : Nat → ClassId} {A adK adV : Nat → Nat} (hA : apA A 33) (cx : Cxx D C adK adV (fxA A 33) p s m args meth c cX11_scan 4 RX11 none) {res : St} : ∀ (n : Nat), ∀ (x1 : Int32) (x3 : Int32) (σ : St) (H : Heap) (locs : List Loc) (ls : Array Slot), F_mX11_scan_75 n x1 x3 σ = some res → lv_has ls 4 [(0, .ref (A 0)), (1, .int x1), (3, .int x3)] → va_P D vwCl (wM A C σ) H → va_S (fxA A 33) s.heap H locs → W p l e rm_X11_scan s m args below meth c H locs 0 0 (MQ below (Qcx D (wM A C) (fxA A 33) none res) args s 0 0 (fxA A 33)) (F0 m 75 ls []) := by
  obtain ⟨hx, hb, hml, hown, hts, hK, hr, hlk, hZ⟩ := id cx
  intro n
  induction n with
  | zero =>
    intro x1 x3 σ H locs ls hf hl hP hS
    exact absurd (show (none : Option St) = some res from hf) (by intro h; cases h)
  | succ n ih =>
    intro x1 x3 σ H locs ls hf hl hP hS
    refine lv_aload_n hx hb dX11_scan_75 rfl (lv_at hl 0 rfl) ?_
    refine lv_iload_n hx hb dX11_scan_76 rfl (lv_at hl 2 rfl) ?_
    obtain ⟨⟨r7, σ_r7⟩, h_r7, hf⟩ := bd_some hf
    refine cx_V (As := [.int x3]) (rest := []) cx (ct_mX11_see l D C A adK adV hA h_r7) (cw_X11_144 hts ⟨Nat.le_of_ble_eq_true rfl, Nat.le_of_ble_eq_true rfl⟩) (va_recv hK hP (ci := 11) (q0 := 0) rfl (wM_0 A C _)) hP hS rfl hl.1 rfl (Nat.le_of_ble_eq_true rfl) dX11_scan_77 ⟨Nat.zero_le _, Nat.zero_le _⟩ (fun H locs hP hS => ?_)
    obtain ⟨⟨r8, σ_r8⟩, h_r8, hf⟩ := bd_some hf
    refine cx_S (As := [.int r7]) (rest := []) cx (ct_mX11_isSmall l D C A adK adV hA h_r8) (cw_X11_148 hts ⟨Nat.le_of_ble_eq_true rfl, Nat.le_of_ble_eq_true rfl⟩) hP hS rfl hl.1 rfl (Nat.le_of_ble_eq_true rfl) dX11_scan_80 ⟨Nat.zero_le _, Nat.zero_le _⟩ (fun H locs hP hS => ?_)
    refine lv_if_eq (tgt := 125) hx hb dX11_scan_83 (by decide) (fun c9 => ?_) (fun c9 => ?_)
    · have hf := (if_pos c9).symm.trans hf
      refine lv_aload_n hx hb dX11_scan_125 rfl (lv_at hl 0 rfl) ?_
      refine lv_iload_n hx hb dX11_scan_126 rfl (lv_at hl 2 rfl) ?_
      refine lv_iload_n hx hb dX11_scan_127 rfl (lv_at hl 1 rfl) ?_
      refine lv_isub hx hb dX11_scan_128 ?_
      refine lv_bipush (v := 6) hx hb dX11_scan_129 (by decide) ?_
      refine lv_icmp_le (tgt := 138) hx hb dX11_scan_131 (by decide) (fun c10 => ?_) (fun c10 => ?_)
      · have hf := (if_pos c10).symm.trans hf
        refine lv_iconst (v := 1) hx hb dX11_scan_138 (by decide) ?_
        refine pM_0_3 hx hb hts hown hK hP hA hS (hts _ kw_430) dX11_scan_139 (fun H locs hP hS => ?_)
        refine lv_goto (tgt := 265) hx hb dX11_scan_142 (by decide) ?_
        refine lv_aload_n hx hb dX11_scan_265 rfl (lv_at hl 0 rfl) ?_
        refine lv_iload_n hx hb dX11_scan_266 rfl (lv_at hl 2 rfl) ?_
        refine pM_0_5 hx hb hts hown hK hP hA hS (hts _ kw_423) dX11_scan_267 (fun H locs hP hS => ?_)
        have hP : va_P D vwCl (wM A C (sI (sI σ_r8 2 1) 4 x3)) H := hP
        exact cx_vret cx hP hS hf dX11_scan_270
      · have hf := (if_neg c10).symm.trans hf
        refine lv_iconst (v := 0) hx hb dX11_scan_134 (by decide) ?_
        refine lv_goto (tgt := 139) hx hb dX11_scan_135 (by decide) ?_
        refine pM_0_3 hx hb hts hown hK hP hA hS (hts _ kw_430) dX11_scan_139 (fun H locs hP hS => ?_)
        refine lv_goto (tgt := 265) hx hb dX11_scan_142 (by decide) ?_
        refine lv_aload_n hx hb dX11_scan_265 rfl (lv_at hl 0 rfl) ?_
        refine lv_iload_n hx hb dX11_scan_266 rfl (lv_at hl 2 rfl) ?_
        refine pM_0_5 hx hb hts hown hK hP hA hS (hts _ kw_423) dX11_scan_267 (fun H locs hP hS => ?_)
        have hP : va_P D vwCl (wM A C (sI (sI σ_r8 2 0) 4 x3)) H := hP
        exact cx_vret cx hP hS hf dX11_scan_270
    · have hf := (if_neg c9).symm.trans hf
      refine lv_iload_n hx hb dX11_scan_86 rfl (lv_at hl 2 rfl) ?_
      refine lv_iload_n hx hb dX11_scan_87 rfl (lv_at hl 1 rfl) ?_
      refine lv_isub hx hb dX11_scan_88 ?_
      refine lv_bipush (v := 6) hx hb dX11_scan_89 (by decide) ?_
      refine lv_icmp_ge (tgt := 119) hx hb dX11_scan_91 (by decide) (fun c11 => ?_) (fun c11 => ?_)
      · have hf := (if_pos c11).symm.trans hf
        refine lv_iinc (v := (x3 + 1)) (lv' := [(3, .int (x3 + 1)), (0, .ref (A 0)), (1, .int x1)]) hx hb dX11_scan_119 hl (k := 2) rfl rfl (by decide) rfl (fun ls hl => ?_)
        refine lv_goto (tgt := 75) hx hb dX11_scan_122 (by decide) ?_
        exact ih _ _ _ _ _ _ hf (lv_sub hl [1, 2, 0] rfl) hP hS
      · have hf := (if_neg c11).symm.trans hf
        refine lv_aload_n hx hb dX11_scan_94 rfl (lv_at hl 0 rfl) ?_
        refine lv_ldc2 (v := 32) hx hb hown (hts _ kw_432) dX11_scan_95 ?_
        refine lv_aload_n hx hb dX11_scan_98 rfl (lv_at hl 0 rfl) ?_
        refine gM_0_9 hx hb hts hown hK hP (v := (σ_r8.2.2.1 0)) rfl (hts _ kw_431) dX11_scan_99 ?_
        refine lv_lmul hx hb dX11_scan_102 ?_
        refine lv_aload_n hx hb dX11_scan_103 rfl (lv_at hl 0 rfl) ?_
        refine lv_iload_n hx hb dX11_scan_104 rfl (lv_at hl 2 rfl) ?_
        obtain ⟨⟨r12, σ_r12⟩, h_r12, hf⟩ := bd_some hf
        refine cx_V (As := [.int x3]) (rest := [.long ((32 : Int64) * (σ_r8.2.2.1 0)), .ref (A 0)]) cx (ct_mX11_see l D C A adK adV hA h_r12) (cw_X11_144 hts ⟨Nat.le_of_ble_eq_true rfl, Nat.le_of_ble_eq_true rfl⟩) (va_recv hK hP (ci := 11) (q0 := 0) rfl (wM_0 A C _)) hP hS rfl hl.1 rfl (Nat.le_of_ble_eq_true rfl) dX11_scan_105 ⟨Nat.zero_le _, Nat.zero_le _⟩ (fun H locs hP hS => ?_)
        refine lv_i2l hx hb dX11_scan_108 rfl ?_
        refine lv_ladd hx hb dX11_scan_109 ?_
        refine lv_ldc2 (v := 97) hx hb hown (hts _ kw_433) dX11_scan_110 ?_
        refine lv_lsub hx hb dX11_scan_113 ?_
        refine lv_lconst (v := 1) hx hb dX11_scan_114 (by decide) ?_
        refine lv_ladd hx hb dX11_scan_115 ?_
        refine pM_0_9 hx hb hts hown hK hP hA hS (hts _ kw_431) dX11_scan_116 (fun H locs hP hS => ?_)
        refine lv_iinc (v := (x3 + 1)) (lv' := [(3, .int (x3 + 1)), (0, .ref (A 0)), (1, .int x1)]) hx hb dX11_scan_119 hl (k := 2) rfl rfl (by decide) rfl (fun ls hl => ?_)
        refine lv_goto (tgt := 75) hx hb dX11_scan_122 (by decide) ?_
        have hP : va_P D vwCl (wM A C (sJ σ_r12 0 (((((32 : Int64) * (σ_r8.2.2.1 0)) + (Int32.toInt64 r12)) - (97 : Int64)) + (1 : Int64)))) H := hP
        exact ih _ _ _ _ _ _ hf (lv_sub hl [1, 2, 0] rfl) hP hS
set_option maxHeartbeats 4000000 in
set_option maxRecDepth 100000 in
theorem w_F_mX11_scan_160 {p : Program} {l : Launch} {e : Env} {s : State} {m : MethodId} {args : Array Value} {below : List Frame} {meth : Method} {c : Code} {D : va_G} {C : Nat → ClassId} {A adK adV : Nat → Nat} (hA : apA A 33) (cx : Cxx D C adK adV (fxA A 33) p s m args meth c cX11_scan 4 RX11 none) {res : St} : ∀ (n : Nat), ∀ (x1 : Int32) (x3 : Int32) (σ : St) (H : Heap) (locs : List Loc) (ls : Array Slot), F_mX11_scan_160 n x1 x3 σ = some res → lv_has ls 4 [(0, .ref (A 0)), (1, .int x1), (3, .int x3)] → va_P D vwCl (wM A C σ) H → va_S (fxA A 33) s.heap H locs → W p l e rm_X11_scan s m args below meth c H locs 0 0 (MQ below (Qcx D (wM A C) (fxA A 33) none res) args s 0 0 (fxA A 33)) (F0 m 160 ls []) := by
  obtain ⟨hx, hb, hml, hown, hts, hK, hr, hlk, hZ⟩ := id cx
  intro n
  induction n with
  | zero =>
    intro x1 x3 σ H locs ls hf hl hP hS
    exact absurd (show (none : Option St) = some res from hf) (by intro h; cases h)
  | succ n ih =>
    intro x1 x3 σ H locs ls hf hl hP hS
    refine lv_aload_n hx hb dX11_scan_160 rfl (lv_at hl 0 rfl) ?_
    refine lv_iload_n hx hb dX11_scan_161 rfl (lv_at hl 2 rfl) ?_
    obtain ⟨⟨r1, σ_r1⟩, h_r1, hf⟩ := bd_some hf
    refine cx_V (As := [.int x3]) (rest := []) cx (ct_mX11_see l D C A adK adV hA h_r1) (cw_X11_144 hts ⟨Nat.le_of_ble_eq_true rfl, Nat.le_of_ble_eq_true rfl⟩) (va_recv hK hP (ci := 11) (q0 := 0) rfl (wM_0 A C _)) hP hS rfl hl.1 rfl (Nat.le_of_ble_eq_true rfl) dX11_scan_162 ⟨Nat.zero_le _, Nat.zero_le _⟩ (fun H locs hP hS => ?_)
    obtain ⟨⟨r2, σ_r2⟩, h_r2, hf⟩ := bd_some hf
    refine cx_S (As := [.int r1]) (rest := []) cx (ct_mX11_isDigit l D C A adK adV hA h_r2) (cw_X11_160 hts ⟨Nat.le_of_ble_eq_true rfl, Nat.le_of_ble_eq_true rfl⟩) hP hS rfl hl.1 rfl (Nat.le_of_ble_eq_true rfl) dX11_scan_165 ⟨Nat.zero_le _, Nat.zero_le _⟩ (fun H locs hP hS => ?_)
    refine lv_if_eq (tgt := 212) hx hb dX11_scan_168 (by decide) (fun c3 => ?_) (fun c3 => ?_)
    · have hf := (if_pos c3).symm.trans hf
      refine lv_aload_n hx hb dX11_scan_212 rfl (lv_at hl 0 rfl) ?_
      refine lv_iload_n hx hb dX11_scan_213 rfl (lv_at hl 2 rfl) ?_
      refine lv_iload_n hx hb dX11_scan_214 rfl (lv_at hl 1 rfl) ?_
      refine lv_isub hx hb dX11_scan_215 ?_
      refine lv_bipush (v := 9) hx hb dX11_scan_216 (by decide) ?_
      refine lv_icmp_le (tgt := 225) hx hb dX11_scan_218 (by decide) (fun c4 => ?_) (fun c4 => ?_)
      · have hf := (if_pos c4).symm.trans hf
        refine lv_iconst (v := 2) hx hb dX11_scan_225 (by decide) ?_
        refine pM_0_3 hx hb hts hown hK hP hA hS (hts _ kw_430) dX11_scan_226 (fun H locs hP hS => ?_)
        refine lv_goto (tgt := 265) hx hb dX11_scan_229 (by decide) ?_
        refine lv_aload_n hx hb dX11_scan_265 rfl (lv_at hl 0 rfl) ?_
        refine lv_iload_n hx hb dX11_scan_266 rfl (lv_at hl 2 rfl) ?_
        refine pM_0_5 hx hb hts hown hK hP hA hS (hts _ kw_423) dX11_scan_267 (fun H locs hP hS => ?_)
        have hP : va_P D vwCl (wM A C (sI (sI σ_r2 2 2) 4 x3)) H := hP
        exact cx_vret cx hP hS hf dX11_scan_270
      · have hf := (if_neg c4).symm.trans hf
        refine lv_iconst (v := 0) hx hb dX11_scan_221 (by decide) ?_
        refine lv_goto (tgt := 226) hx hb dX11_scan_222 (by decide) ?_
        refine pM_0_3 hx hb hts hown hK hP hA hS (hts _ kw_430) dX11_scan_226 (fun H locs hP hS => ?_)
        refine lv_goto (tgt := 265) hx hb dX11_scan_229 (by decide) ?_
        refine lv_aload_n hx hb dX11_scan_265 rfl (lv_at hl 0 rfl) ?_
        refine lv_iload_n hx hb dX11_scan_266 rfl (lv_at hl 2 rfl) ?_
        refine pM_0_5 hx hb hts hown hK hP hA hS (hts _ kw_423) dX11_scan_267 (fun H locs hP hS => ?_)
        have hP : va_P D vwCl (wM A C (sI (sI σ_r2 2 0) 4 x3)) H := hP
        exact cx_vret cx hP hS hf dX11_scan_270
    · have hf := (if_neg c3).symm.trans hf
      refine lv_aload_n hx hb dX11_scan_171 rfl (lv_at hl 0 rfl) ?_
      refine lv_iload_n hx hb dX11_scan_172 rfl (lv_at hl 2 rfl) ?_
      refine lv_iload_n hx hb dX11_scan_173 rfl (lv_at hl 1 rfl) ?_
      refine lv_isub hx hb dX11_scan_174 ?_
      refine lv_bipush (v := 9) hx hb dX11_scan_175 (by decide) ?_
      refine lv_icmp_ge (tgt := 199) hx hb dX11_scan_177 (by decide) (fun c5 => ?_) (fun c5 => ?_)
      · have hf := (if_pos c5).symm.trans hf
        refine lv_aload_n hx hb dX11_scan_199 rfl (lv_at hl 0 rfl) ?_
        refine gM_0_6 hx hb hts hown hK hP (v := (σ_r2.1 5)) rfl (hts _ kw_434) dX11_scan_200 ?_
        refine pM_0_6 hx hb hts hown hK hP hA hS (hts _ kw_434) dX11_scan_203 (fun H locs hP hS => ?_)
        refine lv_iinc (v := (x3 + 1)) (lv' := [(3, .int (x3 + 1)), (0, .ref (A 0)), (1, .int x1)]) hx hb dX11_scan_206 hl (k := 2) rfl rfl (by decide) rfl (fun ls hl => ?_)
        refine lv_goto (tgt := 160) hx hb dX11_scan_209 (by decide) ?_
        have hP : va_P D vwCl (wM A C (sI σ_r2 5 (σ_r2.1 5))) H := hP
        exact ih _ _ _ _ _ _ hf (lv_sub hl [1, 2, 0] rfl) hP hS
      · have hf := (if_neg c5).symm.trans hf
        refine lv_bipush (v := 10) hx hb dX11_scan_180 (by decide) ?_
        refine lv_aload_n hx hb dX11_scan_182 rfl (lv_at hl 0 rfl) ?_
        refine gM_0_6 hx hb hts hown hK hP (v := (σ_r2.1 5)) rfl (hts _ kw_434) dX11_scan_183 ?_
        refine lv_imul hx hb dX11_scan_186 ?_
        refine lv_aload_n hx hb dX11_scan_187 rfl (lv_at hl 0 rfl) ?_
        refine lv_iload_n hx hb dX11_scan_188 rfl (lv_at hl 2 rfl) ?_
        obtain ⟨⟨r6, σ_r6⟩, h_r6, hf⟩ := bd_some hf
        refine cx_V (As := [.int x3]) (rest := [.int (10 * (σ_r2.1 5)), .ref (A 0)]) cx (ct_mX11_see l D C A adK adV hA h_r6) (cw_X11_144 hts ⟨Nat.le_of_ble_eq_true rfl, Nat.le_of_ble_eq_true rfl⟩) (va_recv hK hP (ci := 11) (q0 := 0) rfl (wM_0 A C _)) hP hS rfl hl.1 rfl (Nat.le_of_ble_eq_true rfl) dX11_scan_189 ⟨Nat.zero_le _, Nat.zero_le _⟩ (fun H locs hP hS => ?_)
        refine lv_iadd hx hb dX11_scan_192 ?_
        refine lv_bipush (v := 48) hx hb dX11_scan_193 (by decide) ?_
        refine lv_isub hx hb dX11_scan_195 ?_
        refine lv_goto (tgt := 203) hx hb dX11_scan_196 (by decide) ?_
        refine pM_0_6 hx hb hts hown hK hP hA hS (hts _ kw_434) dX11_scan_203 (fun H locs hP hS => ?_)
        refine lv_iinc (v := (x3 + 1)) (lv' := [(3, .int (x3 + 1)), (0, .ref (A 0)), (1, .int x1)]) hx hb dX11_scan_206 hl (k := 2) rfl rfl (by decide) rfl (fun ls hl => ?_)
        refine lv_goto (tgt := 160) hx hb dX11_scan_209 (by decide) ?_
        have hP : va_P D vwCl (wM A C (sI σ_r6 5 (((10 * (σ_r2.1 5)) + r6) - 48))) H := hP
        exact ih _ _ _ _ _ _ hf (lv_sub hl [1, 2, 0] rfl) hP hS
set_option maxHeartbeats 4000000 in
set_option maxRecDepth 100000 in
theorem w_F_mX11_scan_5 {p : Program} {l : Launch} {e : Env} {s : State} {m : MethodId} {args : Array Value} {below : List Frame} {meth : Method} {c : Code} {D : va_G} {C : Nat → ClassId} {A adK adV : Nat → Nat} (hA : apA A 33) (cx : Cxx D C adK adV (fxA A 33) p s m args meth c cX11_scan 4 RX11 none) {res : St} : ∀ (n : Nat), ∀ (x1 : Int32) (σ : St) (H : Heap) (locs : List Loc) (ls : Array Slot), F_mX11_scan_5 n x1 σ = some res → lv_has ls 4 [(0, .ref (A 0)), (1, .int x1)] → va_P D vwCl (wM A C σ) H → va_S (fxA A 33) s.heap H locs → W p l e rm_X11_scan s m args below meth c H locs 0 0 (MQ below (Qcx D (wM A C) (fxA A 33) none res) args s 0 0 (fxA A 33)) (F0 m 5 ls []) := by
  obtain ⟨hx, hb, hml, hown, hts, hK, hr, hlk, hZ⟩ := id cx
  intro n
  induction n with
  | zero =>
    intro x1 σ H locs ls hf hl hP hS
    exact absurd (show (none : Option St) = some res from hf) (by intro h; cases h)
  | succ n ih =>
    intro x1 σ H locs ls hf hl hP hS
    refine lv_aload_n hx hb dX11_scan_5 rfl (lv_at hl 0 rfl) ?_
    refine lv_iload_n hx hb dX11_scan_6 rfl (lv_at hl 1 rfl) ?_
    obtain ⟨⟨r13, σ_r13⟩, h_r13, hf⟩ := bd_some hf
    refine cx_V (As := [.int x1]) (rest := []) cx (ct_mX11_see l D C A adK adV hA h_r13) (cw_X11_144 hts ⟨Nat.le_of_ble_eq_true rfl, Nat.le_of_ble_eq_true rfl⟩) (va_recv hK hP (ci := 11) (q0 := 0) rfl (wM_0 A C _)) hP hS rfl hl.1 rfl (Nat.le_of_ble_eq_true rfl) dX11_scan_7 ⟨Nat.zero_le _, Nat.zero_le _⟩ (fun H locs hP hS => ?_)
    refine lv_bipush (v := 32) hx hb dX11_scan_10 (by decide) ?_
    refine lv_icmp_eq (tgt := 25) hx hb dX11_scan_12 (by decide) (fun c14 => ?_) (fun c14 => ?_)
    · have hf := (if_pos c14).symm.trans hf
      refine lv_iinc (v := (x1 + 1)) (lv' := [(1, .int (x1 + 1)), (0, .ref (A 0))]) hx hb dX11_scan_25 hl (k := 1) rfl rfl (by decide) rfl (fun ls hl => ?_)
      refine lv_goto (tgt := 5) hx hb dX11_scan_28 (by decide) ?_
      exact ih _ _ _ _ _ hf (lv_sub hl [1, 0] rfl) hP hS
    · have hf := (if_neg c14).symm.trans hf
      refine lv_aload_n hx hb dX11_scan_15 rfl (lv_at hl 0 rfl) ?_
      refine lv_iload_n hx hb dX11_scan_16 rfl (lv_at hl 1 rfl) ?_
      obtain ⟨⟨r15, σ_r15⟩, h_r15, hf⟩ := bd_some hf
      refine cx_V (As := [.int x1]) (rest := []) cx (ct_mX11_see l D C A adK adV hA h_r15) (cw_X11_144 hts ⟨Nat.le_of_ble_eq_true rfl, Nat.le_of_ble_eq_true rfl⟩) (va_recv hK hP (ci := 11) (q0 := 0) rfl (wM_0 A C _)) hP hS rfl hl.1 rfl (Nat.le_of_ble_eq_true rfl) dX11_scan_17 ⟨Nat.zero_le _, Nat.zero_le _⟩ (fun H locs hP hS => ?_)
      refine lv_bipush (v := 10) hx hb dX11_scan_20 (by decide) ?_
      refine lv_icmp_ne (tgt := 31) hx hb dX11_scan_22 (by decide) (fun c16 => ?_) (fun c16 => ?_)
      · have hf := (if_neg c16).symm.trans hf
        refine lv_aload_n hx hb dX11_scan_31 rfl (lv_at hl 0 rfl) ?_
        refine lv_iload_n hx hb dX11_scan_32 rfl (lv_at hl 1 rfl) ?_
        refine pM_0_4 hx hb hts hown hK hP hA hS (hts _ kw_429) dX11_scan_33 (fun H locs hP hS => ?_)
        refine lv_aload_n hx hb dX11_scan_36 rfl (lv_at hl 0 rfl) ?_
        refine lv_iload_n hx hb dX11_scan_37 rfl (lv_at hl 1 rfl) ?_
        have hP : va_P D vwCl (wM A C (sI σ_r15 3 x1)) H := hP
        obtain ⟨⟨r17, σ_r17⟩, h_r17, hf⟩ := bd_some hf
        refine cx_V (As := [.int x1]) (rest := []) cx (ct_mX11_see l D C A adK adV hA h_r17) (cw_X11_144 hts ⟨Nat.le_of_ble_eq_true rfl, Nat.le_of_ble_eq_true rfl⟩) (va_recv hK hP (ci := 11) (q0 := 0) rfl (wM_0 A C _)) hP hS rfl hl.1 rfl (Nat.le_of_ble_eq_true rfl) dX11_scan_38 ⟨Nat.zero_le _, Nat.zero_le _⟩ (fun H locs hP hS => ?_)
        refine lv_istore_n (lv' := [(2, .int r17), (0, .ref (A 0)), (1, .int x1)]) hx hb dX11_scan_41 rfl hl (by decide) rfl (fun ls hl => ?_)
        refine lv_iload_n hx hb dX11_scan_42 rfl (lv_at hl 2 rfl) ?_
        refine lv_iconst (v := 1) hx hb dX11_scan_43 (by decide) ?_
        refine lv_iadd hx hb dX11_scan_44 ?_
        refine lv_istore_n (lv' := [(3, .int (x1 + 1)), (2, .int r17), (0, .ref (A 0)), (1, .int x1)]) hx hb dX11_scan_45 rfl hl (by decide) rfl (fun ls hl => ?_)
        refine lv_iload_n hx hb dX11_scan_46 rfl (lv_at hl 1 rfl) ?_
        refine lv_iconst (v := (-1)) hx hb dX11_scan_47 (by decide) ?_
        refine lv_icmp_ne (tgt := 61) hx hb dX11_scan_48 (by decide) (fun c18 => ?_) (fun c18 => ?_)
        · have hf := (if_neg c18).symm.trans hf
          refine lv_iload_n hx hb dX11_scan_61 rfl (lv_at hl 1 rfl) ?_
          obtain ⟨⟨r19, σ_r19⟩, h_r19, hf⟩ := bd_some hf
          refine cx_S (As := [.int r17]) (rest := []) cx (ct_mX11_isSmall l D C A adK adV hA h_r19) (cw_X11_148 hts ⟨Nat.le_of_ble_eq_true rfl, Nat.le_of_ble_eq_true rfl⟩) hP hS rfl hl.1 rfl (Nat.le_of_ble_eq_true rfl) dX11_scan_62 ⟨Nat.zero_le _, Nat.zero_le _⟩ (fun H locs hP hS => ?_)
          refine lv_if_eq (tgt := 145) hx hb dX11_scan_65 (by decide) (fun c20 => ?_) (fun c20 => ?_)
          · have hf := (if_pos c20).symm.trans hf
            refine lv_iload_n hx hb dX11_scan_145 rfl (lv_at hl 1 rfl) ?_
            obtain ⟨⟨r21, σ_r21⟩, h_r21, hf⟩ := bd_some hf
            refine cx_S (As := [.int r17]) (rest := []) cx (ct_mX11_isDigit l D C A adK adV hA h_r21) (cw_X11_160 hts ⟨Nat.le_of_ble_eq_true rfl, Nat.le_of_ble_eq_true rfl⟩) hP hS rfl hl.1 rfl (Nat.le_of_ble_eq_true rfl) dX11_scan_146 ⟨Nat.zero_le _, Nat.zero_le _⟩ (fun H locs hP hS => ?_)
            refine lv_if_eq (tgt := 232) hx hb dX11_scan_149 (by decide) (fun c22 => ?_) (fun c22 => ?_)
            · have hf := (if_pos c22).symm.trans hf
              refine lv_aload_n hx hb dX11_scan_232 rfl (lv_at hl 2 rfl) ?_
              refine lv_iload_n hx hb dX11_scan_233 rfl (lv_at hl 1 rfl) ?_
              refine lv_bipush (v := 58) hx hb dX11_scan_234 (by decide) ?_
              refine lv_icmp_eq (tgt := 257) hx hb dX11_scan_236 (by decide) (fun c23 => ?_) (fun c23 => ?_)
              · have hf := (if_pos c23).symm.trans hf
                refine lv_iconst (v := 3) hx hb dX11_scan_257 (by decide) ?_
                refine lv_goto (tgt := 262) hx hb dX11_scan_258 (by decide) ?_
                refine pM_0_3 hx hb hts hown hK hP hA hS (hts _ kw_430) dX11_scan_262 (fun H locs hP hS => ?_)
                refine lv_aload_n hx hb dX11_scan_265 rfl (lv_at hl 2 rfl) ?_
                refine lv_iload_n hx hb dX11_scan_266 rfl (lv_at hl 0 rfl) ?_
                refine pM_0_5 hx hb hts hown hK hP hA hS (hts _ kw_423) dX11_scan_267 (fun H locs hP hS => ?_)
                have hP : va_P D vwCl (wM A C (sI (sI σ_r21 2 3) 4 (x1 + 1))) H := hP
                exact cx_vret cx hP hS hf dX11_scan_270
              · have hf := (if_neg c23).symm.trans hf
                refine lv_iload_n hx hb dX11_scan_239 rfl (lv_at hl 1 rfl) ?_
                refine lv_bipush (v := 59) hx hb dX11_scan_240 (by decide) ?_
                refine lv_icmp_eq (tgt := 257) hx hb dX11_scan_242 (by decide) (fun c24 => ?_) (fun c24 => ?_)
                · have hf := (if_pos c24).symm.trans hf
                  refine lv_iconst (v := 3) hx hb dX11_scan_257 (by decide) ?_
                  refine lv_goto (tgt := 262) hx hb dX11_scan_258 (by decide) ?_
                  refine pM_0_3 hx hb hts hown hK hP hA hS (hts _ kw_430) dX11_scan_262 (fun H locs hP hS => ?_)
                  refine lv_aload_n hx hb dX11_scan_265 rfl (lv_at hl 2 rfl) ?_
                  refine lv_iload_n hx hb dX11_scan_266 rfl (lv_at hl 0 rfl) ?_
                  refine pM_0_5 hx hb hts hown hK hP hA hS (hts _ kw_423) dX11_scan_267 (fun H locs hP hS => ?_)
                  have hP : va_P D vwCl (wM A C (sI (sI σ_r21 2 3) 4 (x1 + 1))) H := hP
                  exact cx_vret cx hP hS hf dX11_scan_270
                · have hf := (if_neg c24).symm.trans hf
                  refine lv_iload_n hx hb dX11_scan_245 rfl (lv_at hl 1 rfl) ?_
                  refine lv_bipush (v := 61) hx hb dX11_scan_246 (by decide) ?_
                  refine lv_icmp_eq (tgt := 257) hx hb dX11_scan_248 (by decide) (fun c25 => ?_) (fun c25 => ?_)
                  · have hf := (if_pos c25).symm.trans hf
                    refine lv_iconst (v := 3) hx hb dX11_scan_257 (by decide) ?_
                    refine lv_goto (tgt := 262) hx hb dX11_scan_258 (by decide) ?_
                    refine pM_0_3 hx hb hts hown hK hP hA hS (hts _ kw_430) dX11_scan_262 (fun H locs hP hS => ?_)
                    refine lv_aload_n hx hb dX11_scan_265 rfl (lv_at hl 2 rfl) ?_
                    refine lv_iload_n hx hb dX11_scan_266 rfl (lv_at hl 0 rfl) ?_
                    refine pM_0_5 hx hb hts hown hK hP hA hS (hts _ kw_423) dX11_scan_267 (fun H locs hP hS => ?_)
                    have hP : va_P D vwCl (wM A C (sI (sI σ_r21 2 3) 4 (x1 + 1))) H := hP
                    exact cx_vret cx hP hS hf dX11_scan_270
                  · have hf := (if_neg c25).symm.trans hf
                    refine lv_iload_n hx hb dX11_scan_251 rfl (lv_at hl 1 rfl) ?_
                    refine lv_bipush (v := 45) hx hb dX11_scan_252 (by decide) ?_
                    refine lv_icmp_ne (tgt := 261) hx hb dX11_scan_254 (by decide) (fun c26 => ?_) (fun c26 => ?_)
                    · have hf := (if_neg c26).symm.trans hf
                      refine lv_iconst (v := 0) hx hb dX11_scan_261 (by decide) ?_
                      refine pM_0_3 hx hb hts hown hK hP hA hS (hts _ kw_430) dX11_scan_262 (fun H locs hP hS => ?_)
                      refine lv_aload_n hx hb dX11_scan_265 rfl (lv_at hl 2 rfl) ?_
                      refine lv_iload_n hx hb dX11_scan_266 rfl (lv_at hl 0 rfl) ?_
                      refine pM_0_5 hx hb hts hown hK hP hA hS (hts _ kw_423) dX11_scan_267 (fun H locs hP hS => ?_)
                      have hP : va_P D vwCl (wM A C (sI (sI σ_r21 2 0) 4 (x1 + 1))) H := hP
                      exact cx_vret cx hP hS hf dX11_scan_270
                    · have hf := (if_pos c26).symm.trans hf
                      refine lv_iconst (v := 3) hx hb dX11_scan_257 (by decide) ?_
                      refine lv_goto (tgt := 262) hx hb dX11_scan_258 (by decide) ?_
                      refine pM_0_3 hx hb hts hown hK hP hA hS (hts _ kw_430) dX11_scan_262 (fun H locs hP hS => ?_)
                      refine lv_aload_n hx hb dX11_scan_265 rfl (lv_at hl 2 rfl) ?_
                      refine lv_iload_n hx hb dX11_scan_266 rfl (lv_at hl 0 rfl) ?_
                      refine pM_0_5 hx hb hts hown hK hP hA hS (hts _ kw_423) dX11_scan_267 (fun H locs hP hS => ?_)
                      have hP : va_P D vwCl (wM A C (sI (sI σ_r21 2 3) 4 (x1 + 1))) H := hP
                      exact cx_vret cx hP hS hf dX11_scan_270
            · have hf := (if_neg c22).symm.trans hf
              refine lv_aload_n hx hb dX11_scan_152 rfl (lv_at hl 2 rfl) ?_
              refine lv_iload_n hx hb dX11_scan_153 rfl (lv_at hl 1 rfl) ?_
              refine lv_bipush (v := 48) hx hb dX11_scan_154 (by decide) ?_
              refine lv_isub hx hb dX11_scan_156 ?_
              refine pM_0_6 hx hb hts hown hK hP hA hS (hts _ kw_434) dX11_scan_157 (fun H locs hP hS => ?_)
              have hP : va_P D vwCl (wM A C (sI σ_r21 5 (r17 - 48))) H := hP
              exact w_F_mX11_scan_160 hA cx FU _ _ _ _ _ _ hf (lv_sub hl [2, 3, 0] rfl) hP hS
          · have hf := (if_neg c20).symm.trans hf
            refine lv_aload_n hx hb dX11_scan_68 rfl (lv_at hl 2 rfl) ?_
            refine lv_lconst (v := 0) hx hb dX11_scan_69 (by decide) ?_
            refine pM_0_9 hx hb hts hown hK hP hA hS (hts _ kw_431) dX11_scan_70 (fun H locs hP hS => ?_)
            refine lv_iload_n hx hb dX11_scan_73 rfl (lv_at hl 3 rfl) ?_
            refine lv_istore_n (lv' := [(3, .int x1), (2, .int r17), (0, .ref (A 0)), (1, .int x1)]) hx hb dX11_scan_74 rfl hl (by decide) rfl (fun ls hl => ?_)
            have hP : va_P D vwCl (wM A C (sJ σ_r19 0 (0 : Int64))) H := hP
            exact w_F_mX11_scan_75 hA cx FU _ _ _ _ _ _ hf (lv_sub hl [2, 3, 0] rfl) hP hS
        · have hf := (if_pos c18).symm.trans hf
          refine lv_aload_n hx hb dX11_scan_51 rfl (lv_at hl 2 rfl) ?_
          refine lv_iconst (v := 4) hx hb dX11_scan_52 (by decide) ?_
          refine pM_0_3 hx hb hts hown hK hP hA hS (hts _ kw_430) dX11_scan_53 (fun H locs hP hS => ?_)
          refine lv_iload_n hx hb dX11_scan_56 rfl (lv_at hl 3 rfl) ?_
          refine lv_istore_n (lv' := [(3, .int x1), (2, .int r17), (0, .ref (A 0)), (1, .int x1)]) hx hb dX11_scan_57 rfl hl (by decide) rfl (fun ls hl => ?_)
          refine lv_goto (tgt := 265) hx hb dX11_scan_58 (by decide) ?_
          refine lv_aload_n hx hb dX11_scan_265 rfl (lv_at hl 2 rfl) ?_
          refine lv_iload_n hx hb dX11_scan_266 rfl (lv_at hl 0 rfl) ?_
          refine pM_0_5 hx hb hts hown hK hP hA hS (hts _ kw_423) dX11_scan_267 (fun H locs hP hS => ?_)
          have hP : va_P D vwCl (wM A C (sI (sI σ_r17 2 4) 4 x1)) H := hP
          exact cx_vret cx hP hS hf dX11_scan_270
      · have hf := (if_pos c16).symm.trans hf
        refine lv_iinc (v := (x1 + 1)) (lv' := [(1, .int (x1 + 1)), (0, .ref (A 0))]) hx hb dX11_scan_25 hl (k := 1) rfl rfl (by decide) rfl (fun ls hl => ?_)
        refine lv_goto (tgt := 5) hx hb dX11_scan_28 (by decide) ?_
        exact ih _ _ _ _ _ hf (lv_sub hl [1, 0] rfl) hP hS
set_option maxHeartbeats 4000000 in
set_option maxRecDepth 100000 in
theorem ct_mX11_scan (l : Launch) (D : va_G) (C : Nat → ClassId) (A adK adV : Nat → Nat) (hA : apA A 33)  {σ : St} {res : St} (hf : F_mX11_scan σ = some res) : Met l yX11_scan (Cond.code yX11_scan cX11_scan 4 none :: wsL_law) rm_X11_scan (Pcx D C (wM A C) adK adV (fxA A 33) [.ref (A 0)] σ) (Qcx D (wM A C) (fxA A 33) none res) 0 0 (fxA A 33) := by
  refine Met.ofW (cc := cX11_scan) (maxL := 4) (ret := none) (by decide) rfl ?_
  intro p e s m args below meth c s₁ B hml hv
  obtain ⟨rfl, hP, hK, hZ⟩ := hv
  have cx : Cxx D C adK adV (fxA A 33) p s m _ meth c cX11_scan 4 RX11 none := ⟨B.exec, B.bytes, hml, findClass_of_methodNamed B.named, fun w h => atoms_spec (ws := Cond.code yX11_scan cX11_scan 4 none :: wsL_law) B.pre w (List.mem_cons_of_mem _ h), hK, B.returns, B.notSynchronized, hZ⟩
  obtain ⟨hx, hb, -, hown, hts, -, hr, hlk, -⟩ := id cx
  have hS : va_S (fxA A 33) s.heap s.heap [] := va_S.rf
  have hl := lv_entry ([.ref (A 0)]) (n := 4) (Nat.le_of_ble_eq_true rfl)
  rw [lg_entry_eq]
  generalize (lg_sl ([.ref (A 0)]) ++ List.replicate (4 - (lg_sl ([.ref (A 0)])).length) Slot.unset).toArray = ls at hl ⊢
  have hl : lv_has ls 4 [(0, .ref (A 0))] := hl
  show W p l e rm_X11_scan s m _ below meth c s.heap [] 0 0 _ _
  refine lv_aload_n hx hb dX11_scan_0 rfl (lv_at hl 0 rfl) ?_
  refine gM_0_5 hx hb hts hown hK hP (v := (σ.1 4)) rfl (hts _ kw_423) dX11_scan_1 ?_
  refine lv_istore_n (lv' := [(1, .int (σ.1 4)), (0, .ref (A 0))]) hx hb dX11_scan_4 rfl hl (by decide) rfl (fun ls hl => ?_)
  exact w_F_mX11_scan_5 hA cx FU _ _ _ _ _ hf (lv_sub hl [1, 0] rfl) hP hS
set_option maxHeartbeats 4000000 in
set_option maxRecDepth 100000 in
theorem ct_mX11_take (l : Launch) (D : va_G) (C : Nat → ClassId) (A adK adV : Nat → Nat) (hA : apA A 33)  {σ : St} {res : St} (hf : F_mX11_take σ = some res) : Met l yX11_take (Cond.code yX11_take cX11_take 1 none :: wsL_law) rm_X11_take (Pcx D C (wM A C) adK adV (fxA A 33) [.ref (A 0)] σ) (Qcx D (wM A C) (fxA A 33) none res) 0 0 (fxA A 33) := by
  refine Met.ofW (cc := cX11_take) (maxL := 1) (ret := none) (by decide) rfl ?_
  intro p e s m args below meth c s₁ B hml hv
  obtain ⟨rfl, hP, hK, hZ⟩ := hv
  have cx : Cxx D C adK adV (fxA A 33) p s m _ meth c cX11_take 1 RX11 none := ⟨B.exec, B.bytes, hml, findClass_of_methodNamed B.named, fun w h => atoms_spec (ws := Cond.code yX11_take cX11_take 1 none :: wsL_law) B.pre w (List.mem_cons_of_mem _ h), hK, B.returns, B.notSynchronized, hZ⟩
  obtain ⟨hx, hb, -, hown, hts, -, hr, hlk, -⟩ := id cx
  have hS : va_S (fxA A 33) s.heap s.heap [] := va_S.rf
  have hl := lv_entry ([.ref (A 0)]) (n := 1) (Nat.le_of_ble_eq_true rfl)
  rw [lg_entry_eq]
  generalize (lg_sl ([.ref (A 0)]) ++ List.replicate (1 - (lg_sl ([.ref (A 0)])).length) Slot.unset).toArray = ls at hl ⊢
  have hl : lv_has ls 1 [(0, .ref (A 0))] := hl
  show W p l e rm_X11_take s m _ below meth c s.heap [] 0 0 _ _
  refine lv_aload_n hx hb dX11_take_0 rfl (lv_at hl 0 rfl) ?_
  refine lv_aload_n hx hb dX11_take_1 rfl (lv_at hl 0 rfl) ?_
  refine gM_0_1 hx hb hts hown hK hP (v := (σ.1 0)) rfl (hts _ kw_206) dX11_take_2 ?_
  refine pM_0_2 hx hb hts hown hK hP hA hS (hts _ kw_422) dX11_take_5 (fun H locs hP hS => ?_)
  refine lv_aload_n hx hb dX11_take_8 rfl (lv_at hl 0 rfl) ?_
  refine lv_iconst (v := 0) hx hb dX11_take_9 (by decide) ?_
  refine pM_0_1 hx hb hts hown hK hP hA hS (hts _ kw_206) dX11_take_10 (fun H locs hP hS => ?_)
  refine lv_aload_n hx hb dX11_take_13 rfl (lv_at hl 0 rfl) ?_
  refine lv_iconst (v := 0) hx hb dX11_take_14 (by decide) ?_
  refine pM_0_5 hx hb hts hown hK hP hA hS (hts _ kw_423) dX11_take_15 (fun H locs hP hS => ?_)
  refine lv_aload_n hx hb dX11_take_18 rfl (lv_at hl 0 rfl) ?_
  have hP : va_P D vwCl (wM A C (sI (sI (sI σ 0 0) 1 (σ.1 0)) 4 0)) H := hP
  obtain ⟨σ_r1, h_r1, hf⟩ := bv_some hf
  refine cx_V (As := []) (rest := []) cx (ct_mX11_scan l D C A adK adV hA h_r1) (cw_X11_166 hts ⟨Nat.le_of_ble_eq_true rfl, Nat.le_of_ble_eq_true rfl⟩) (va_recv hK hP (ci := 11) (q0 := 0) rfl (wM_0 A C _)) hP hS rfl hl.1 rfl (Nat.le_of_ble_eq_true rfl) dX11_take_19 ⟨Nat.zero_le _, Nat.zero_le _⟩ (fun H locs hP hS => ?_)
  refine lv_aload_n hx hb dX11_take_22 rfl (lv_at hl 0 rfl) ?_
  refine lv_iconst (v := 0) hx hb dX11_take_23 (by decide) ?_
  refine pM_0_7 hx hb hts hown hK hP hA hS (hts _ kw_424) dX11_take_24 (fun H locs hP hS => ?_)
  refine lv_aload_n hx hb dX11_take_27 rfl (lv_at hl 0 rfl) ?_
  refine lv_iconst (v := (-1)) hx hb dX11_take_28 (by decide) ?_
  refine pM_0_8 hx hb hts hown hK hP hA hS (hts _ kw_153) dX11_take_29 (fun H locs hP hS => ?_)
  have hP : va_P D vwCl (wM A C (sI (sI σ_r1 6 0) 7 (-1))) H := hP
  exact cx_vret cx hP hS hf dX11_take_32
