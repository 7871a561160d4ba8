set_option maxHeartbeats 4000000 in
set_option maxRecDepth 100000 in
theorem ct_mX11_fails (l : Launch) (D : va_G) (C : Nat → ClassId) (A adK adV : Nat → Nat) (hA : apA A 33) {x1 : Int32} {σ : St} {res : (Int32 × St)} (hf : F_mX11_fails x1 σ = some res) : Met l yX11_fails (Cond.code yX11_fails cX11_fails 2 (some .boolean) :: wsL_law) rm_X11_fails (Pcx D C (wM A C) adK adV (fxA A 33) [.ref (A 0), .int x1] σ) (Qcx D (wM A C) (fxA A 33) (some (.int res.1)) res.2) 0 0 (fxA A 33) := by
  refine Met.ofW (cc := cX11_fails) (maxL := 2) (ret := (some .boolean)) (by decide) rfl ?_
  intro p e s m args below meth c s₁ B hml hv
  obtain ⟨rfl, hP, hK, hZ⟩ := hv
  have cx : Cxx D C adK adV (fxA A 33) p s m _ meth c cX11_fails 2 RX11 (some .boolean) := ⟨B.exec, B.bytes, hml, findClass_of_methodNamed B.named, fun w h => atoms_spec (ws := Cond.code yX11_fails cX11_fails 2 (some .boolean) :: wsL_law) B.pre w (List.mem_cons_of_mem _ h), hK, B.returns, B.notSynchronized, hZ⟩
  obtain ⟨hx, hb, -, hown, hts, -, hr, hlk, -⟩ := id cx
  have hS : va_S (fxA A 33) s.heap s.heap [] := va_S.rf
  have hl := lv_entry ([.ref (A 0), .int x1]) (n := 2) (Nat.le_of_ble_eq_true rfl)
  rw [lg_entry_eq]
  generalize (lg_sl ([.ref (A 0), .int x1]) ++ List.replicate (2 - (lg_sl ([.ref (A 0), .int x1])).length) Slot.unset).toArray = ls at hl ⊢
  have hl : lv_has ls 2 [(0, .ref (A 0)), (1, .int x1)] := hl
  show W p l e rm_X11_fails s m _ below meth c s.heap [] 0 0 _ _
  refine lv_aload_n hx hb dX11_fails_0 rfl (lv_at hl 0 rfl) ?_
  refine lv_iload_n hx hb dX11_fails_1 rfl (lv_at hl 1 rfl) ?_
  refine pM_0_7 hx hb hts hown hK hP hA hS (hts _ kw_424) dX11_fails_2 (fun H locs hP hS => ?_)
  refine lv_aload_n hx hb dX11_fails_5 rfl (lv_at hl 0 rfl) ?_
  refine lv_aload_n hx hb dX11_fails_6 rfl (lv_at hl 0 rfl) ?_
  refine gM_0_4 hx hb hts hown hK hP (v := (σ.1 3)) rfl (hts _ kw_429) dX11_fails_7 ?_
  refine pM_0_8 hx hb hts hown hK hP hA hS (hts _ kw_153) dX11_fails_10 (fun H locs hP hS => ?_)
  refine lv_iconst (v := 0) hx hb dX11_fails_13 (by decide) ?_
  have hP : va_P D vwCl (wM A C (sI (sI σ 6 x1) 7 (σ.1 3))) H := hP
  exact cx_zret cx rfl hP hS hf dX11_fails_14
set_option maxHeartbeats 4000000 in
set_option maxRecDepth 100000 in
theorem w_F_mX11_readSign_20 {p : Program} {l : Launch} {e : Env} {s : State} {m : MethodId} {args : Array Value} {below : List Frame} {meth : Method} {c : Code} {D : va_G} {C : Nat → ClassId} {A adK adV : Nat → Nat} (hA : apA A 33) (cx : Cxx D C adK adV (fxA A 33) p s m args meth c cX11_readSign 2 RX11 (some .boolean)) {res : (Int32 × St)} : ∀ (σ : St) (H : Heap) (locs : List Loc) (ls : Array Slot), F_mX11_readSign_20 σ = some res → lv_has ls 2 [(0, .ref (A 0))] → va_P D vwCl (wM A C σ) H → va_S (fxA A 33) s.heap H locs → W p l e rm_X11_readSign s m args below meth c H locs 0 0 (MQ below (Qcx D (wM A C) (fxA A 33) (some (.int res.1)) res.2) args s 0 0 (fxA A 33)) (F0 m 20 ls []) := by
  obtain ⟨hx, hb, hml, hown, hts, hK, hr, hlk, hZ⟩ := id cx
  intro σ H locs ls hf hl hP hS
  refine lv_aload_n hx hb dX11_readSign_20 rfl (lv_at hl 0 rfl) ?_
  refine lv_iconst (v := 1) hx hb dX11_readSign_21 (by decide) ?_
  obtain ⟨⟨r1, σ_r1⟩, h_r1, hf⟩ := bd_some hf
  refine cx_V (As := [.int 1]) (rest := []) cx (ct_mX11_fails l D C A adK adV hA h_r1) (cw_X11_172 hts ⟨Nat.le_of_ble_eq_true rfl, Nat.le_of_ble_eq_true rfl⟩) (va_recv hK hP (ci := 11) (q0 := 0) rfl (wM_0 A C _)) hP hS rfl hl.1 rfl (Nat.le_of_ble_eq_true rfl) dX11_readSign_22 ⟨Nat.zero_le _, Nat.zero_le _⟩ (fun H locs hP hS => ?_)
  obtain ⟨z2, hf⟩ := gd_some hf
  exact cx_zret cx (nb_ok z2) hP hS hf dX11_readSign_25
set_option maxHeartbeats 4000000 in
set_option maxRecDepth 100000 in
theorem ct_mX11_readSign (l : Launch) (D : va_G) (C : Nat → ClassId) (A adK adV : Nat → Nat) (hA : apA A 33) {x1 : Int32} {σ : St} {res : (Int32 × St)} (hf : F_mX11_readSign x1 σ = some res) : Met l yX11_readSign (Cond.code yX11_readSign cX11_readSign 2 (some .boolean) :: wsL_law) rm_X11_readSign (Pcx D C (wM A C) adK adV (fxA A 33) [.ref (A 0), .int x1] σ) (Qcx D (wM A C) (fxA A 33) (some (.int res.1)) res.2) 0 0 (fxA A 33) := by
  refine Met.ofW (cc := cX11_readSign) (maxL := 2) (ret := (some .boolean)) (by decide) rfl ?_
  intro p e s m args below meth c s₁ B hml hv
  obtain ⟨rfl, hP, hK, hZ⟩ := hv
  have cx : Cxx D C adK adV (fxA A 33) p s m _ meth c cX11_readSign 2 RX11 (some .boolean) := ⟨B.exec, B.bytes, hml, findClass_of_methodNamed B.named, fun w h => atoms_spec (ws := Cond.code yX11_readSign cX11_readSign 2 (some .boolean) :: wsL_law) B.pre w (List.mem_cons_of_mem _ h), hK, B.returns, B.notSynchronized, hZ⟩
  obtain ⟨hx, hb, -, hown, hts, -, hr, hlk, -⟩ := id cx
  have hS : va_S (fxA A 33) s.heap s.heap [] := va_S.rf
  have hl := lv_entry ([.ref (A 0), .int x1]) (n := 2) (Nat.le_of_ble_eq_true rfl)
  rw [lg_entry_eq]
  generalize (lg_sl ([.ref (A 0), .int x1]) ++ List.replicate (2 - (lg_sl ([.ref (A 0), .int x1])).length) Slot.unset).toArray = ls at hl ⊢
  have hl : lv_has ls 2 [(0, .ref (A 0)), (1, .int x1)] := hl
  show W p l e rm_X11_readSign s m _ below meth c s.heap [] 0 0 _ _
  refine lv_aload_n hx hb dX11_readSign_0 rfl (lv_at hl 0 rfl) ?_
  refine gM_0_3 hx hb hts hown hK hP (v := (σ.1 2)) rfl (hts _ kw_430) dX11_readSign_1 ?_
  refine lv_iconst (v := 3) hx hb dX11_readSign_4 (by decide) ?_
  refine lv_icmp_ne (tgt := 20) hx hb dX11_readSign_5 (by decide) (fun c3 => ?_) (fun c3 => ?_)
  · have hf := (if_neg c3).symm.trans hf
    exact w_F_mX11_readSign_20 hA cx _ _ _ _ hf (lv_sub hl [0] rfl) hP hS
  · have hf := (if_pos c3).symm.trans hf
    refine lv_aload_n hx hb dX11_readSign_8 rfl (lv_at hl 0 rfl) ?_
    refine lv_aload_n hx hb dX11_readSign_9 rfl (lv_at hl 0 rfl) ?_
    refine gM_0_4 hx hb hts hown hK hP (v := (σ.1 3)) rfl (hts _ kw_429) dX11_readSign_10 ?_
    obtain ⟨⟨r4, σ_r4⟩, h_r4, hf⟩ := bd_some hf
    refine cx_V (As := [.int (σ.1 3)]) (rest := []) cx (ct_mX11_see l D C A adK adV hA h_r4) (cw_X11_144 hts ⟨Nat.le_of_ble_eq_true rfl, Nat.le_of_ble_eq_true rfl⟩) (va_recv hK hP (ci := 11) (q0 := 0) rfl (wM_0 A C _)) hP hS rfl hl.1 rfl (Nat.le_of_ble_eq_true rfl) dX11_readSign_13 ⟨Nat.zero_le _, Nat.zero_le _⟩ (fun H locs hP hS => ?_)
    refine lv_iload_n hx hb dX11_readSign_16 rfl (lv_at hl 1 rfl) ?_
    refine lv_icmp_eq (tgt := 26) hx hb dX11_readSign_17 (by decide) (fun c5 => ?_) (fun c5 => ?_)
    · have hf := (if_pos c5).symm.trans hf
      refine lv_aload_n hx hb dX11_readSign_26 rfl (lv_at hl 0 rfl) ?_
      obtain ⟨σ_r6, h_r6, hf⟩ := bv_some hf
      refine cx_V (As := []) (rest := []) cx (ct_mX11_scan l D C A adK adV hA h_r6) (cw_X11_166 hts ⟨Nat.le_of_ble_eq_true rfl, Nat.le_of_ble_eq_true rfl⟩) (va_recv hK hP (ci := 11) (q0 := 0) rfl (wM_0 A C _)) hP hS rfl hl.1 rfl (Nat.le_of_ble_eq_true rfl) dX11_readSign_27 ⟨Nat.zero_le _, Nat.zero_le _⟩ (fun H locs hP hS => ?_)
      refine lv_iconst (v := 1) hx hb dX11_readSign_30 (by decide) ?_
      exact cx_zret cx rfl hP hS hf dX11_readSign_31
    · have hf := (if_neg c5).symm.trans hf
      exact w_F_mX11_readSign_20 hA cx _ _ _ _ hf (lv_sub hl [0] rfl) hP hS
set_option maxHeartbeats 4000000 in
set_option maxRecDepth 100000 in
theorem w_F_mX11_keyOf_120 {p : Program} {l : Launch} {e : Env} {s : State} {m : MethodId} {args : Array Value} {below : List Frame} {meth : Method} {c : Code} {D : va_G} {C : Nat → ClassId} {A adK adV : Nat → Nat} (hA : apA A 33) (cx : Cxx D C adK adV (fxA A 33) p s m args meth c cX11_keyOf 7 RX11 (some .int)) {i : Nat} (hi : i < 17) {res : (Int32 × St)} {b17 : Int32 → Int32 → Int32 → St → Option (Int32 × St)} (hb17 : ∀ (x2 : Int32) (x3 : Int32) (x4 : Int32) (σ : St) (H : Heap) (locs : List Loc) (ls : Array Slot), b17 x2 x3 x4 σ = some res → lv_has ls 7 [(0, .ref (A 0)), (1, .ref (adK i)), (2, .int x2), (3, .int x3), (4, .int x4)] → va_P D vwCl (wM A C σ) H → va_S (fxA A 33) s.heap H locs → W p l e rm_X11_keyOf s m args below meth c H locs 0 0 (MQ below (Qcx D (wM A C) (fxA A 33) (some (.int res.1)) res.2) args s 0 0 (fxA A 33)) (F0 m 17 ls [])) : ∀ (x2 : Int32) (x4 : Int32) (x5 : Int32) (σ : St) (H : Heap) (locs : List Loc) (ls : Array Slot), F_mX11_keyOf_120 i b17 x2 x4 x5 σ = some res → lv_has ls 7 [(0, .ref (A 0)), (1, .ref (adK i)), (2, .int x2), (4, .int x4), (5, .int x5)] → va_P D vwCl (wM A C σ) H → va_S (fxA A 33) s.heap H locs → W p l e rm_X11_keyOf s m args below meth c H locs 0 0 (MQ below (Qcx D (wM A C) (fxA A 33) (some (.int res.1)) res.2) args s 0 0 (fxA A 33)) (F0 m 120 ls []) := by
  obtain ⟨hx, hb, hml, hown, hts, hK, hr, hlk, hZ⟩ := id cx
  intro x2 x4 x5 σ H locs ls hf hl hP hS
  refine lv_iload hx hb dX11_keyOf_120 (lv_at hl 4 rfl) ?_
  refine lv_if_eq (tgt := 127) hx hb dX11_keyOf_122 (by decide) (fun c1 => ?_) (fun c1 => ?_)
  · have hf := (if_pos c1).symm.trans hf
    refine lv_iinc (v := (x2 + 1)) (lv' := [(2, .int (x2 + 1)), (0, .ref (A 0)), (1, .ref (adK i)), (4, .int x4), (5, .int x5)]) hx hb dX11_keyOf_127 hl (k := 2) rfl rfl (by decide) rfl (fun ls hl => ?_)
    refine lv_iload hx hb dX11_keyOf_130 (lv_at hl 3 rfl) ?_
    refine lv_iconst (v := 1) hx hb dX11_keyOf_132 (by decide) ?_
    refine lv_iadd hx hb dX11_keyOf_133 ?_
    refine lv_istore_n (lv' := [(3, .int (x4 + 1)), (2, .int (x2 + 1)), (0, .ref (A 0)), (1, .ref (adK i)), (4, .int x4), (5, .int x5)]) hx hb dX11_keyOf_134 rfl hl (by decide) rfl (fun ls hl => ?_)
    refine lv_iinc (v := (x4 + 1)) (lv' := [(4, .int (x4 + 1)), (3, .int (x4 + 1)), (2, .int (x2 + 1)), (0, .ref (A 0)), (1, .ref (adK i)), (5, .int x5)]) hx hb dX11_keyOf_135 hl (k := 4) rfl rfl (by decide) rfl (fun ls hl => ?_)
    refine lv_goto (tgt := 17) hx hb dX11_keyOf_138 (by decide) ?_
    exact hb17 _ _ _ _ _ _ _ hf (lv_sub hl [3, 4, 2, 1, 0] rfl) hP hS
  · have hf := (if_neg c1).symm.trans hf
    refine lv_iload_n hx hb dX11_keyOf_125 rfl (lv_at hl 2 rfl) ?_
    exact cx_iret cx hP hS hf dX11_keyOf_126
set_option maxHeartbeats 4000000 in
set_option maxRecDepth 100000 in
theorem w_F_mX11_keyOf_66 {p : Program} {l : Launch} {e : Env} {s : State} {m : MethodId} {args : Array Value} {below : List Frame} {meth : Method} {c : Code} {D : va_G} {C : Nat → ClassId} {A adK adV : Nat → Nat} (hA : apA A 33) (cx : Cxx D C adK adV (fxA A 33) p s m args meth c cX11_keyOf 7 RX11 (some .int)) {i : Nat} (hi : i < 17) {res : (Int32 × St)} {b17 : Int32 → Int32 → Int32 → St → Option (Int32 × St)} (hb17 : ∀ (x2 : Int32) (x3 : Int32) (x4 : Int32) (σ : St) (H : Heap) (locs : List Loc) (ls : Array Slot), b17 x2 x3 x4 σ = some res → lv_has ls 7 [(0, .ref (A 0)), (1, .ref (adK i)), (2, .int x2), (3, .int x3), (4, .int x4)] → va_P D vwCl (wM A C σ) H → va_S (fxA A 33) s.heap H locs → W p l e rm_X11_keyOf s m args below meth c H locs 0 0 (MQ below (Qcx D (wM A C) (fxA A 33) (some (.int res.1)) res.2) args s 0 0 (fxA A 33)) (F0 m 17 ls [])) : ∀ (n : Nat), ∀ (x2 : Int32) (x3 : Int32) (x4 : Int32) (x5 : Int32) (x6 : Int32) (σ : St) (H : Heap) (locs : List Loc) (ls : Array Slot), F_mX11_keyOf_66 i b17 n x2 x3 x4 x5 x6 σ = some res → lv_has ls 7 [(0, .ref (A 0)), (1, .ref (adK i)), (2, .int x2), (3, .int x3), (4, .int x4), (5, .int x5), (6, .int x6)] → va_P D vwCl (wM A C σ) H → va_S (fxA A 33) s.heap H locs → W p l e rm_X11_keyOf s m args below meth c H locs 0 0 (MQ below (Qcx D (wM A C) (fxA A 33) (some (.int res.1)) res.2) args s 0 0 (fxA A 33)) (F0 m 66 ls []) := by
  obtain ⟨hx, hb, hml, hown, hts, hK, hr, hlk, hZ⟩ := id cx
  intro n
  induction n with
  | zero =>
    intro x2 x3 x4 x5 x6 σ H locs ls hf hl hP hS
    exact absurd (show (none : Option (Int32 × St)) = some res from hf) (by intro h; cases h)
  | succ n ih =>
    intro x2 x3 x4 x5 x6 σ H locs ls hf hl hP hS
    refine lv_iload hx hb dX11_keyOf_66 (lv_at hl 6 rfl) ?_
    refine lv_aload_n hx hb dX11_keyOf_68 rfl (lv_at hl 0 rfl) ?_
    refine gM_0_5 hx hb hts hown hK hP (v := (σ.1 4)) rfl (hts _ kw_423) dX11_keyOf_69 ?_
    refine lv_aload_n hx hb dX11_keyOf_72 rfl (lv_at hl 0 rfl) ?_
    refine gM_0_4 hx hb hts hown hK hP (v := (σ.1 3)) rfl (hts _ kw_429) dX11_keyOf_73 ?_
    refine lv_isub hx hb dX11_keyOf_76 ?_
    refine lv_icmp_ge (tgt := 120) hx hb dX11_keyOf_77 (by decide) (fun c2 => ?_) (fun c2 => ?_)
    · have hf := (if_pos c2).symm.trans hf
      exact w_F_mX11_keyOf_120 hA cx hi hb17 _ _ _ _ _ _ _ hf (lv_sub hl [0, 1, 2, 4, 5] rfl) hP hS
    · have hf := (if_neg c2).symm.trans hf
      refine lv_iload hx hb dX11_keyOf_80 (lv_at hl 5 rfl) ?_
      refine lv_if_eq (tgt := 120) hx hb dX11_keyOf_82 (by decide) (fun c3 => ?_) (fun c3 => ?_)
      · have hf := (if_pos c3).symm.trans hf
        exact w_F_mX11_keyOf_120 hA cx hi hb17 _ _ _ _ _ _ _ hf (lv_sub hl [0, 1, 2, 4, 5] rfl) hP hS
      · have hf := (if_neg c3).symm.trans hf
        refine lv_aload_n hx hb dX11_keyOf_85 rfl (lv_at hl 1 rfl) ?_
        refine lv_iload_n hx hb dX11_keyOf_86 rfl (lv_at hl 3 rfl) ?_
        refine lv_iload hx hb dX11_keyOf_87 (lv_at hl 6 rfl) ?_
        refine lv_iadd hx hb dX11_keyOf_89 ?_
        obtain ⟨z4, hf⟩ := gd_some hf
        refine cx_V (As := [.int (x3 + x6)]) (rest := []) cx (ct_charAt l D C (wM A C) adK adV (fxA A 33) hi (ib_in z4)) (cw_X11_134 hts ⟨Nat.le_of_ble_eq_true rfl, Nat.le_of_ble_eq_true rfl⟩) (vk_recv hZ.1 hi hS) hP hS rfl hl.1 rfl (Nat.le_of_ble_eq_true rfl) dX11_keyOf_90 ⟨Nat.zero_le _, Nat.zero_le _⟩ (fun H locs hP hS => ?_)
        refine lv_aload_n hx hb dX11_keyOf_93 rfl (lv_at hl 0 rfl) ?_
        refine lv_aload_n hx hb dX11_keyOf_94 rfl (lv_at hl 0 rfl) ?_
        refine gM_0_4 hx hb hts hown hK hP (v := (σ.1 3)) rfl (hts _ kw_429) dX11_keyOf_95 ?_
        refine lv_iload hx hb dX11_keyOf_98 (lv_at hl 6 rfl) ?_
        refine lv_iadd hx hb dX11_keyOf_100 ?_
        obtain ⟨⟨r5, σ_r5⟩, h_r5, hf⟩ := bd_some hf
        refine cx_V (As := [.int ((σ.1 3) + x6)]) (rest := [.int (strAt i (x3 + x6))]) cx (ct_mX11_see l D C A adK adV hA h_r5) (cw_X11_144 hts ⟨Nat.le_of_ble_eq_true rfl, Nat.le_of_ble_eq_true rfl⟩) (va_recv hK hP (ci := 11) (q0 := 0) rfl (wM_0 A C _)) hP hS rfl hl.1 rfl (Nat.le_of_ble_eq_true rfl) dX11_keyOf_101 ⟨Nat.zero_le _, Nat.zero_le _⟩ (fun H locs hP hS => ?_)
        refine lv_icmp_ne (tgt := 111) hx hb dX11_keyOf_104 (by decide) (fun c6 => ?_) (fun c6 => ?_)
        · have hf := (if_neg c6).symm.trans hf
          refine lv_iconst (v := 0) hx hb dX11_keyOf_111 (by decide) ?_
          refine lv_istore (lv' := [(5, .int 0), (0, .ref (A 0)), (1, .ref (adK i)), (2, .int x2), (3, .int x3), (4, .int x4), (6, .int x6)]) hx hb dX11_keyOf_112 hl (by decide) rfl (fun ls hl => ?_)
          refine lv_iinc (v := (x6 + 1)) (lv' := [(6, .int (x6 + 1)), (5, .int 0), (0, .ref (A 0)), (1, .ref (adK i)), (2, .int x2), (3, .int x3), (4, .int x4)]) hx hb dX11_keyOf_114 hl (k := 6) rfl rfl (by decide) rfl (fun ls hl => ?_)
          refine lv_goto (tgt := 66) hx hb dX11_keyOf_117 (by decide) ?_
          exact ih _ _ _ _ _ _ _ _ _ hf (lv_sub hl [2, 3, 4, 5, 6, 1, 0] rfl) hP hS
        · have hf := (if_pos c6).symm.trans hf
          refine lv_iconst (v := 1) hx hb dX11_keyOf_107 (by decide) ?_
          refine lv_goto (tgt := 112) hx hb dX11_keyOf_108 (by decide) ?_
          refine lv_istore (lv' := [(5, .int 1), (0, .ref (A 0)), (1, .ref (adK i)), (2, .int x2), (3, .int x3), (4, .int x4), (6, .int x6)]) hx hb dX11_keyOf_112 hl (by decide) rfl (fun ls hl => ?_)
          refine lv_iinc (v := (x6 + 1)) (lv' := [(6, .int (x6 + 1)), (5, .int 1), (0, .ref (A 0)), (1, .ref (adK i)), (2, .int x2), (3, .int x3), (4, .int x4)]) hx hb dX11_keyOf_114 hl (k := 6) rfl rfl (by decide) rfl (fun ls hl => ?_)
          refine lv_goto (tgt := 66) hx hb dX11_keyOf_117 (by decide) ?_
          exact ih _ _ _ _ _ _ _ _ _ hf (lv_sub hl [2, 3, 4, 5, 6, 1, 0] rfl) hP hS
set_option maxHeartbeats 4000000 in
set_option maxRecDepth 100000 in
theorem w_F_mX11_keyOf_17 {p : Program} {l : Launch} {e : Env} {s : State} {m : MethodId} {args : Array Value} {below : List Frame} {meth : Method} {c : Code} {D : va_G} {C : Nat → ClassId} {A adK adV : Nat → Nat} (hA : apA A 33) (cx : Cxx D C adK adV (fxA A 33) p s m args meth c cX11_keyOf 7 RX11 (some .int)) {i : Nat} (hi : i < 17) {res : (Int32 × St)} : ∀ (n : Nat), ∀ (x2 : Int32) (x3 : Int32) (x4 : Int32) (σ : St) (H : Heap) (locs : List Loc) (ls : Array Slot), F_mX11_keyOf_17 i n x2 x3 x4 σ = some res → lv_has ls 7 [(0, .ref (A 0)), (1, .ref (adK i)), (2, .int x2), (3, .int x3), (4, .int x4)] → va_P D vwCl (wM A C σ) H → va_S (fxA A 33) s.heap H locs → W p l e rm_X11_keyOf s m args below meth c H locs 0 0 (MQ below (Qcx D (wM A C) (fxA A 33) (some (.int res.1)) res.2) args s 0 0 (fxA A 33)) (F0 m 17 ls []) := by
  obtain ⟨hx, hb, hml, hown, hts, hK, hr, hlk, hZ⟩ := id cx
  intro n
  induction n with
  | zero =>
    intro x2 x3 x4 σ H locs ls hf hl hP hS
    exact absurd (show (none : Option (Int32 × St)) = some res from hf) (by intro h; cases h)
  | succ n ih =>
    intro x2 x3 x4 σ H locs ls hf hl hP hS
    refine lv_iload hx hb dX11_keyOf_17 (lv_at hl 4 rfl) ?_
    refine lv_aload_n hx hb dX11_keyOf_19 rfl (lv_at hl 1 rfl) ?_
    refine cx_V (As := []) (rest := [.int x4]) cx (ct_length l D C (wM A C) adK adV (fxA A 33) hi) (cw_X11_128 hts ⟨Nat.le_of_ble_eq_true rfl, Nat.le_of_ble_eq_true rfl⟩) (vk_recv hZ.1 hi hS) hP hS rfl hl.1 rfl (Nat.le_of_ble_eq_true rfl) dX11_keyOf_20 ⟨Nat.zero_le _, Nat.zero_le _⟩ (fun H locs hP hS => ?_)
    refine lv_icmp_ge (tgt := 141) hx hb dX11_keyOf_23 (by decide) (fun c7 => ?_) (fun c7 => ?_)
    · have hf := (if_pos c7).symm.trans hf
      refine lv_iconst (v := (-1)) hx hb dX11_keyOf_141 (by decide) ?_
      exact cx_iret cx hP hS hf dX11_keyOf_142
    · have hf := (if_neg c7).symm.trans hf
      refine lv_aload_n hx hb dX11_keyOf_26 rfl (lv_at hl 1 rfl) ?_
      refine lv_iload hx hb dX11_keyOf_27 (lv_at hl 4 rfl) ?_
      obtain ⟨z8, hf⟩ := gd_some hf
      refine cx_V (As := [.int x4]) (rest := []) cx (ct_charAt l D C (wM A C) adK adV (fxA A 33) hi (ib_in z8)) (cw_X11_134 hts ⟨Nat.le_of_ble_eq_true rfl, Nat.le_of_ble_eq_true rfl⟩) (vk_recv hZ.1 hi hS) hP hS rfl hl.1 rfl (Nat.le_of_ble_eq_true rfl) dX11_keyOf_29 ⟨Nat.zero_le _, Nat.zero_le _⟩ (fun H locs hP hS => ?_)
      refine lv_bipush (v := 32) hx hb dX11_keyOf_32 (by decide) ?_
      refine lv_icmp_eq (tgt := 40) hx hb dX11_keyOf_34 (by decide) (fun c9 => ?_) (fun c9 => ?_)
      · have hf := (if_pos c9).symm.trans hf
        refine lv_iload hx hb dX11_keyOf_40 (lv_at hl 4 rfl) ?_
        refine lv_iload_n hx hb dX11_keyOf_42 rfl (lv_at hl 3 rfl) ?_
        refine lv_isub hx hb dX11_keyOf_43 ?_
        refine lv_aload_n hx hb dX11_keyOf_44 rfl (lv_at hl 0 rfl) ?_
        refine gM_0_5 hx hb hts hown hK hP (v := (σ.1 4)) rfl (hts _ kw_423) dX11_keyOf_45 ?_
        refine lv_aload_n hx hb dX11_keyOf_48 rfl (lv_at hl 0 rfl) ?_
        refine gM_0_4 hx hb hts hown hK hP (v := (σ.1 3)) rfl (hts _ kw_429) dX11_keyOf_49 ?_
        refine lv_isub hx hb dX11_keyOf_52 ?_
        refine lv_icmp_ne (tgt := 60) hx hb dX11_keyOf_53 (by decide) (fun c10 => ?_) (fun c10 => ?_)
        · have hf := (if_neg c10).symm.trans hf
          refine lv_iconst (v := 0) hx hb dX11_keyOf_60 (by decide) ?_
          refine lv_istore (lv' := [(5, .int 0), (0, .ref (A 0)), (1, .ref (adK i)), (2, .int x2), (3, .int x3), (4, .int x4)]) hx hb dX11_keyOf_61 hl (by decide) rfl (fun ls hl => ?_)
          refine lv_iconst (v := 0) hx hb dX11_keyOf_63 (by decide) ?_
          refine lv_istore (lv' := [(6, .int 0), (5, .int 0), (0, .ref (A 0)), (1, .ref (adK i)), (2, .int x2), (3, .int x3), (4, .int x4)]) hx hb dX11_keyOf_64 hl (by decide) rfl (fun ls hl => ?_)
          exact w_F_mX11_keyOf_66 hA cx hi ih FU _ _ _ _ _ _ _ _ _ hf (lv_sub hl [2, 3, 4, 5, 6, 1, 0] rfl) hP hS
        · have hf := (if_pos c10).symm.trans hf
          refine lv_iconst (v := 1) hx hb dX11_keyOf_56 (by decide) ?_
          refine lv_goto (tgt := 61) hx hb dX11_keyOf_57 (by decide) ?_
          refine lv_istore (lv' := [(5, .int 1), (0, .ref (A 0)), (1, .ref (adK i)), (2, .int x2), (3, .int x3), (4, .int x4)]) hx hb dX11_keyOf_61 hl (by decide) rfl (fun ls hl => ?_)
          refine lv_iconst (v := 0) hx hb dX11_keyOf_63 (by decide) ?_
          refine lv_istore (lv' := [(6, .int 0), (5, .int 1), (0, .ref (A 0)), (1, .ref (adK i)), (2, .int x2), (3, .int x3), (4, .int x4)]) hx hb dX11_keyOf_64 hl (by decide) rfl (fun ls hl => ?_)
          exact w_F_mX11_keyOf_66 hA cx hi ih FU _ _ _ _ _ _ _ _ _ hf (lv_sub hl [2, 3, 4, 5, 6, 1, 0] rfl) hP hS
      · have hf := (if_neg c9).symm.trans hf
        refine lv_goto (tgt := 135) hx hb dX11_keyOf_37 (by decide) ?_
        refine lv_iinc (v := (x4 + 1)) (lv' := [(4, .int (x4 + 1)), (0, .ref (A 0)), (1, .ref (adK i)), (2, .int x2), (3, .int x3)]) hx hb dX11_keyOf_135 hl (k := 4) rfl rfl (by decide) rfl (fun ls hl => ?_)
        refine lv_goto (tgt := 17) hx hb dX11_keyOf_138 (by decide) ?_
        exact ih _ _ _ _ _ _ _ hf (lv_sub hl [1, 2, 3, 4, 0] rfl) hP hS
set_option maxHeartbeats 4000000 in
set_option maxRecDepth 100000 in
theorem ct_mX11_keyOf (l : Launch) (D : va_G) (C : Nat → ClassId) (A adK adV : Nat → Nat) (hA : apA A 33) {i : Nat} (hi : i < 17)  {σ : St} {res : (Int32 × St)} (hf : F_mX11_keyOf i σ = some res) : Met l yX11_keyOf (Cond.code yX11_keyOf cX11_keyOf 7 (some .int) :: wsL_law) rm_X11_keyOf (Pcx D C (wM A C) adK adV (fxA A 33) [.ref (A 0), .ref (adK i)] σ) (Qcx D (wM A C) (fxA A 33) (some (.int res.1)) res.2) 0 0 (fxA A 33) := by
  refine Met.ofW (cc := cX11_keyOf) (maxL := 7) (ret := (some .int)) (by decide) rfl ?_
  intro p e s m args below meth c s₁ B hml hv
  obtain ⟨rfl, hP, hK, hZ⟩ := hv
  have cx : Cxx D C adK adV (fxA A 33) p s m _ meth c cX11_keyOf 7 RX11 (some .int) := ⟨B.exec, B.bytes, hml, findClass_of_methodNamed B.named, fun w h => atoms_spec (ws := Cond.code yX11_keyOf cX11_keyOf 7 (some .int) :: wsL_law) B.pre w (List.mem_cons_of_mem _ h), hK, B.returns, B.notSynchronized, hZ⟩
  obtain ⟨hx, hb, -, hown, hts, -, hr, hlk, -⟩ := id cx
  have hS : va_S (fxA A 33) s.heap s.heap [] := va_S.rf
  have hl := lv_entry ([.ref (A 0), .ref (adK i)]) (n := 7) (Nat.le_of_ble_eq_true rfl)
  rw [lg_entry_eq]
  generalize (lg_sl ([.ref (A 0), .ref (adK i)]) ++ List.replicate (7 - (lg_sl ([.ref (A 0), .ref (adK i)])).length) Slot.unset).toArray = ls at hl ⊢
  have hl : lv_has ls 7 [(0, .ref (A 0)), (1, .ref (adK i))] := hl
  show W p l e rm_X11_keyOf s m _ below meth c s.heap [] 0 0 _ _
  refine lv_aload_n hx hb dX11_keyOf_0 rfl (lv_at hl 0 rfl) ?_
  refine gM_0_3 hx hb hts hown hK hP (v := (σ.1 2)) rfl (hts _ kw_430) dX11_keyOf_1 ?_
  refine lv_iconst (v := 1) hx hb dX11_keyOf_4 (by decide) ?_
  refine lv_icmp_eq (tgt := 10) hx hb dX11_keyOf_5 (by decide) (fun c11 => ?_) (fun c11 => ?_)
  · have hf := (if_pos c11).symm.trans hf
    refine lv_iconst (v := 0) hx hb dX11_keyOf_10 (by decide) ?_
    refine lv_istore_n (lv' := [(2, .int 0), (0, .ref (A 0)), (1, .ref (adK i))]) hx hb dX11_keyOf_11 rfl hl (by decide) rfl (fun ls hl => ?_)
    refine lv_iconst (v := 0) hx hb dX11_keyOf_12 (by decide) ?_
    refine lv_istore_n (lv' := [(3, .int 0), (2, .int 0), (0, .ref (A 0)), (1, .ref (adK i))]) hx hb dX11_keyOf_13 rfl hl (by decide) rfl (fun ls hl => ?_)
    refine lv_iconst (v := 0) hx hb dX11_keyOf_14 (by decide) ?_
    refine lv_istore (lv' := [(4, .int 0), (3, .int 0), (2, .int 0), (0, .ref (A 0)), (1, .ref (adK i))]) hx hb dX11_keyOf_15 hl (by decide) rfl (fun ls hl => ?_)
    exact w_F_mX11_keyOf_17 hA cx hi FU _ _ _ _ _ _ _ hf (lv_sub hl [3, 4, 2, 1, 0] rfl) hP hS
  · have hf := (if_neg c11).symm.trans hf
    refine lv_iconst (v := (-1)) hx hb dX11_keyOf_8 (by decide) ?_
    exact cx_iret cx hP hS hf dX11_keyOf_9
set_option maxHeartbeats 4000000 in
set_option maxRecDepth 100000 in
theorem w_F_mX11_readDrum_227 {p : Program} {l : Launch} {e : Env} {s : State} {m : MethodId} {args : Array Value} {below : List Frame} {meth : Method} {c : Code} {D : va_G} {C : Nat → ClassId} {A adK adV : Nat → Nat} (hA : apA A 33) (cx : Cxx D C adK adV (fxA A 33) p s m args meth c cX11_readDrum 3 RX11 (some .boolean)) {res : (Int32 × St)} : ∀ (σ : St) (H : Heap) (locs : List Loc) (ls : Array Slot), F_mX11_readDrum_227 σ = some res → lv_has ls 3 [(0, .ref (A 0))] → va_P D vwCl (wM A C σ) H → va_S (fxA A 33) s.heap H locs → W p l e rm_X11_readDrum s m args below meth c H locs 0 0 (MQ below (Qcx D (wM A C) (fxA A 33) (some (.int res.1)) res.2) args s 0 0 (fxA A 33)) (F0 m 227 ls []) := by
  obtain ⟨hx, hb, hml, hown, hts, hK, hr, hlk, hZ⟩ := id cx
  intro σ H locs ls hf hl hP hS
  refine lv_aload_n hx hb dX11_readDrum_227 rfl (lv_at hl 0 rfl) ?_
  refine lv_iconst (v := 2) hx hb dX11_readDrum_228 (by decide) ?_
  obtain ⟨⟨r10, σ_r10⟩, h_r10, hf⟩ := bd_some hf
  refine cx_V (As := [.int 2]) (rest := []) cx (ct_mX11_fails l D C A adK adV hA h_r10) (cw_X11_172 hts ⟨Nat.le_of_ble_eq_true rfl, Nat.le_of_ble_eq_true rfl⟩) (va_recv hK hP (ci := 11) (q0 := 0) rfl (wM_0 A C _)) hP hS rfl hl.1 rfl (Nat.le_of_ble_eq_true rfl) dX11_readDrum_229 ⟨Nat.zero_le _, Nat.zero_le _⟩ (fun H locs hP hS => ?_)
  obtain ⟨z11, hf⟩ := gd_some hf
  exact cx_zret cx (nb_ok z11) hP hS hf dX11_readDrum_232
set_option maxHeartbeats 4000000 in
set_option maxRecDepth 100000 in
theorem w_F_mX11_readDrum_279 {p : Program} {l : Launch} {e : Env} {s : State} {m : MethodId} {args : Array Value} {below : List Frame} {meth : Method} {c : Code} {D : va_G} {C : Nat → ClassId} {A adK adV : Nat → Nat} (hA : apA A 33) (cx : Cxx D C adK adV (fxA A 33) p s m args meth c cX11_readDrum 3 RX11 (some .boolean)) {res : (Int32 × St)} {b81 : St → Option (Int32 × St)} (hb81 : ∀  (σ : St) (H : Heap) (locs : List Loc) (ls : Array Slot), b81 σ = some res → lv_has ls 3 [(0, .ref (A 0))] → va_P D vwCl (wM A C σ) H → va_S (fxA A 33) s.heap H locs → W p l e rm_X11_readDrum s m args below meth c H locs 0 0 (MQ below (Qcx D (wM A C) (fxA A 33) (some (.int res.1)) res.2) args s 0 0 (fxA A 33)) (F0 m 81 ls [])) : ∀ (σ : St) (H : Heap) (locs : List Loc) (ls : Array Slot), F_mX11_readDrum_279 b81 σ = some res → lv_has ls 3 [(0, .ref (A 0))] → va_P D vwCl (wM A C σ) H → va_S (fxA A 33) s.heap H locs → W p l e rm_X11_readDrum s m args below meth c H locs 0 0 (MQ below (Qcx D (wM A C) (fxA A 33) (some (.int res.1)) res.2) args s 0 0 (fxA A 33)) (F0 m 279 ls []) := by
  obtain ⟨hx, hb, hml, hown, hts, hK, hr, hlk, hZ⟩ := id cx
  intro σ H locs ls hf hl hP hS
  refine lv_aload_n hx hb dX11_readDrum_279 rfl (lv_at hl 0 rfl) ?_
  refine lv_bipush (v := 59) hx hb dX11_readDrum_280 (by decide) ?_
  obtain ⟨⟨r1, σ_r1⟩, h_r1, hf⟩ := bd_some hf
  refine cx_V (As := [.int 59]) (rest := []) cx (ct_mX11_readSign l D C A adK adV hA h_r1) (cw_X11_188 hts ⟨Nat.le_of_ble_eq_true rfl, Nat.le_of_ble_eq_true rfl⟩) (va_recv hK hP (ci := 11) (q0 := 0) rfl (wM_0 A C _)) hP hS rfl hl.1 rfl (Nat.le_of_ble_eq_true rfl) dX11_readDrum_282 ⟨Nat.zero_le _, Nat.zero_le _⟩ (fun H locs hP hS => ?_)
  refine lv_if_ne (tgt := 290) hx hb dX11_readDrum_285 (by decide) (fun c2 => ?_) (fun c2 => ?_)
  · have hf := (if_neg c2).symm.trans hf
    refine lv_aload_n hx hb dX11_readDrum_290 rfl (lv_at hl 0 rfl) ?_
    refine lv_dup hx hb dX11_readDrum_291 rfl ?_
    refine gM_0_13 hx hb hts hown hK hP (v := (σ_r1.1 11)) rfl (hts _ kw_415) dX11_readDrum_292 ?_
    refine lv_iconst (v := 1) hx hb dX11_readDrum_295 (by decide) ?_
    refine lv_iadd hx hb dX11_readDrum_296 ?_
    refine pM_0_13 hx hb hts hown hK hP hA hS (hts _ kw_415) dX11_readDrum_297 (fun H locs hP hS => ?_)
    refine lv_aload_n hx hb dX11_readDrum_300 rfl (lv_at hl 0 rfl) ?_
    refine gM_0_3 hx hb hts hown hK hP (v := (σ_r1.1 2)) rfl (hts _ kw_430) dX11_readDrum_301 ?_
    refine lv_iconst (v := 4) hx hb dX11_readDrum_304 (by decide) ?_
    refine lv_icmp_ne (tgt := 81) hx hb dX11_readDrum_305 (by decide) (fun c3 => ?_) (fun c3 => ?_)
    · have hf := (if_neg c3).symm.trans hf
      have hP : va_P D vwCl (wM A C (sI σ_r1 11 ((σ_r1.1 11) + 1))) H := hP
      exact hb81  _ _ _ _ hf (lv_sub hl [0] rfl) hP hS
    · have hf := (if_pos c3).symm.trans hf
      refine lv_iconst (v := 1) hx hb dX11_readDrum_308 (by decide) ?_
      have hP : va_P D vwCl (wM A C (sI σ_r1 11 ((σ_r1.1 11) + 1))) H := hP
      exact cx_zret cx rfl hP hS hf dX11_readDrum_309
  · have hf := (if_pos c2).symm.trans hf
    refine lv_iconst (v := 0) hx hb dX11_readDrum_288 (by decide) ?_
    exact cx_zret cx rfl hP hS hf dX11_readDrum_289
set_option maxHeartbeats 4000000 in
set_option maxRecDepth 100000 in
theorem w_F_mX11_readDrum_275 {p : Program} {l : Launch} {e : Env} {s : State} {m : MethodId} {args : Array Value} {below : List Frame} {meth : Method} {c : Code} {D : va_G} {C : Nat → ClassId} {A adK adV : Nat → Nat} (hA : apA A 33) (cx : Cxx D C adK adV (fxA A 33) p s m args meth c cX11_readDrum 3 RX11 (some .boolean)) {res : (Int32 × St)} {b81 : St → Option (Int32 × St)} (hb81 : ∀  (σ : St) (H : Heap) (locs : List Loc) (ls : Array Slot), b81 σ = some res → lv_has ls 3 [(0, .ref (A 0))] → va_P D vwCl (wM A C σ) H → va_S (fxA A 33) s.heap H locs → W p l e rm_X11_readDrum s m args below meth c H locs 0 0 (MQ below (Qcx D (wM A C) (fxA A 33) (some (.int res.1)) res.2) args s 0 0 (fxA A 33)) (F0 m 81 ls [])) : ∀ (σ : St) (H : Heap) (locs : List Loc) (ls : Array Slot), F_mX11_readDrum_275 b81 σ = some res → lv_has ls 3 [(0, .ref (A 0))] → va_P D vwCl (wM A C σ) H → va_S (fxA A 33) s.heap H locs → W p l e rm_X11_readDrum s m args below meth c H locs 0 0 (MQ below (Qcx D (wM A C) (fxA A 33) (some (.int res.1)) res.2) args s 0 0 (fxA A 33)) (F0 m 275 ls []) := by
  obtain ⟨hx, hb, hml, hown, hts, hK, hr, hlk, hZ⟩ := id cx
  intro σ H locs ls hf hl hP hS
  refine lv_aload_n hx hb dX11_readDrum_275 rfl (lv_at hl 0 rfl) ?_
  obtain ⟨σ_r4, h_r4, hf⟩ := bv_some hf
  refine cx_V (As := []) (rest := []) cx (ct_mX11_scan l D C A adK adV hA h_r4) (cw_X11_166 hts ⟨Nat.le_of_ble_eq_true rfl, Nat.le_of_ble_eq_true rfl⟩) (va_recv hK hP (ci := 11) (q0 := 0) rfl (wM_0 A C _)) hP hS rfl hl.1 rfl (Nat.le_of_ble_eq_true rfl) dX11_readDrum_276 ⟨Nat.zero_le _, Nat.zero_le _⟩ (fun H locs hP hS => ?_)
  exact w_F_mX11_readDrum_279 hA cx hb81 _ _ _ _ hf (lv_sub hl [0] rfl) hP hS
set_option maxHeartbeats 4000000 in
set_option maxRecDepth 100000 in
theorem w_F_mX11_readDrum_259 {p : Program} {l : Launch} {e : Env} {s : State} {m : MethodId} {args : Array Value} {below : List Frame} {meth : Method} {c : Code} {D : va_G} {C : Nat → ClassId} {A adK adV : Nat → Nat} (hA : apA A 33) (cx : Cxx D C adK adV (fxA A 33) p s m args meth c cX11_readDrum 3 RX11 (some .boolean)) {res : (Int32 × St)} {b81 : St → Option (Int32 × St)} (hb81 : ∀  (σ : St) (H : Heap) (locs : List Loc) (ls : Array Slot), b81 σ = some res → lv_has ls 3 [(0, .ref (A 0))] → va_P D vwCl (wM A C σ) H → va_S (fxA A 33) s.heap H locs → W p l e rm_X11_readDrum s m args below meth c H locs 0 0 (MQ below (Qcx D (wM A C) (fxA A 33) (some (.int res.1)) res.2) args s 0 0 (fxA A 33)) (F0 m 81 ls [])) : ∀ (x1 : Int32) (x2 : Int32) (y1 : Int32) (y2 : Int32) (σ : St) (H : Heap) (locs : List Loc) (ls : Array Slot), F_mX11_readDrum_259 b81 x1 x2 y1 y2 σ = some res → lv_has ls 3 [(0, .ref (A 0)), (1, .int x1), (2, .int x2)] → va_P D vwCl (wM A C σ) H → va_S (fxA A 33) s.heap H locs → W p l e rm_X11_readDrum s m args below meth c H locs 0 0 (MQ below (Qcx D (wM A C) (fxA A 33) (some (.int res.1)) res.2) args s 0 0 (fxA A 33)) (F0 m 259 ls [.int y2, .int y1, .ref (A 2)]) := by
  obtain ⟨hx, hb, hml, hown, hts, hK, hr, hlk, hZ⟩ := id cx
  intro x1 x2 y1 y2 σ H locs ls hf hl hP hS
  obtain ⟨z5, hf⟩ := gd_some hf
  refine pM_a2 hx hb hK hP hA hS (ib_in z5) dX11_readDrum_259 (fun H locs hP hS => ?_)
  refine lv_iload_n hx hb dX11_readDrum_260 rfl (lv_at hl 1 rfl) ?_
  refine lv_iconst (v := 3) hx hb dX11_readDrum_261 (by decide) ?_
  refine lv_icmp_ne (tgt := 275) hx hb dX11_readDrum_262 (by decide) (fun c6 => ?_) (fun c6 => ?_)
  · have hf := (if_neg c6).symm.trans hf
    have hP : va_P D vwCl (wM A C (sA σ 2 (upd (σ.2.1 2) y1.toNatClampNeg y2))) H := hP
    exact w_F_mX11_readDrum_275 hA cx hb81 _ _ _ _ hf (lv_sub hl [0] rfl) hP hS
  · have hf := (if_pos c6).symm.trans hf
    refine lv_aload_n hx hb dX11_readDrum_265 rfl (lv_at hl 0 rfl) ?_
    refine gM_0_15 hx hb hts hown hK hP (hts _ kw_155) dX11_readDrum_266 ?_
    refine lv_iload_n hx hb dX11_readDrum_269 rfl (lv_at hl 2 rfl) ?_
    refine lv_aload_n hx hb dX11_readDrum_270 rfl (lv_at hl 0 rfl) ?_
    refine gM_0_6 hx hb hts hown hK hP (v := (σ.1 5)) rfl (hts _ kw_434) dX11_readDrum_271 ?_
    obtain ⟨z7, hf⟩ := gd_some hf
    refine pM_a3 hx hb hK hP hA hS (ib_in z7) dX11_readDrum_274 (fun H locs hP hS => ?_)
    have hP : va_P D vwCl (wM A C (sA (sA σ 2 (upd (σ.2.1 2) y1.toNatClampNeg y2)) 3 (upd (σ.2.1 3) x2.toNatClampNeg (σ.1 5)))) H := hP
    exact w_F_mX11_readDrum_275 hA cx hb81 _ _ _ _ hf (lv_sub hl [0] rfl) hP hS
set_option maxHeartbeats 4000000 in
set_option maxRecDepth 100000 in
theorem w_F_mX11_readDrum_233 {p : Program} {l : Launch} {e : Env} {s : State} {m : MethodId} {args : Array Value} {below : List Frame} {meth : Method} {c : Code} {D : va_G} {C : Nat → ClassId} {A adK adV : Nat → Nat} (hA : apA A 33) (cx : Cxx D C adK adV (fxA A 33) p s m args meth c cX11_readDrum 3 RX11 (some .boolean)) {res : (Int32 × St)} {b81 : St → Option (Int32 × St)} (hb81 : ∀  (σ : St) (H : Heap) (locs : List Loc) (ls : Array Slot), b81 σ = some res → lv_has ls 3 [(0, .ref (A 0))] → va_P D vwCl (wM A C σ) H → va_S (fxA A 33) s.heap H locs → W p l e rm_X11_readDrum s m args below meth c H locs 0 0 (MQ below (Qcx D (wM A C) (fxA A 33) (some (.int res.1)) res.2) args s 0 0 (fxA A 33)) (F0 m 81 ls [])) : ∀ (x1 : Int32) (x2 : Int32) (σ : St) (H : Heap) (locs : List Loc) (ls : Array Slot), F_mX11_readDrum_233 b81 x1 x2 σ = some res → lv_has ls 3 [(0, .ref (A 0)), (1, .int x1), (2, .int x2)] → va_P D vwCl (wM A C σ) H → va_S (fxA A 33) s.heap H locs → W p l e rm_X11_readDrum s m args below meth c H locs 0 0 (MQ below (Qcx D (wM A C) (fxA A 33) (some (.int res.1)) res.2) args s 0 0 (fxA A 33)) (F0 m 233 ls []) := by
  obtain ⟨hx, hb, hml, hown, hts, hK, hr, hlk, hZ⟩ := id cx
  intro x1 x2 σ H locs ls hf hl hP hS
  refine lv_aload_n hx hb dX11_readDrum_233 rfl (lv_at hl 0 rfl) ?_
  refine gM_0_14 hx hb hts hown hK hP (hts _ kw_154) dX11_readDrum_234 ?_
  refine lv_iload_n hx hb dX11_readDrum_237 rfl (lv_at hl 2 rfl) ?_
  refine lv_iload_n hx hb dX11_readDrum_238 rfl (lv_at hl 1 rfl) ?_
  refine lv_iconst (v := 2) hx hb dX11_readDrum_239 (by decide) ?_
  refine lv_icmp_ne (tgt := 255) hx hb dX11_readDrum_240 (by decide) (fun c8 => ?_) (fun c8 => ?_)
  · have hf := (if_neg c8).symm.trans hf
    refine lv_aload_n hx hb dX11_readDrum_255 rfl (lv_at hl 0 rfl) ?_
    refine gM_0_6 hx hb hts hown hK hP (v := (σ.1 5)) rfl (hts _ kw_434) dX11_readDrum_256 ?_
    exact w_F_mX11_readDrum_259 hA cx hb81 _ _ _ _ _ _ _ _ hf (lv_sub hl [0, 1, 2] rfl) hP hS
  · have hf := (if_pos c8).symm.trans hf
    refine lv_aload_n hx hb dX11_readDrum_243 rfl (lv_at hl 0 rfl) ?_
    refine gM_0_12 hx hb hts hown hK hP (v := (σ.1 10)) rfl (hts _ kw_414) dX11_readDrum_244 ?_
    refine lv_aload_n hx hb dX11_readDrum_247 rfl (lv_at hl 0 rfl) ?_
    refine gM_0_6 hx hb hts hown hK hP (v := (σ.1 5)) rfl (hts _ kw_434) dX11_readDrum_248 ?_
    obtain ⟨z9, hf⟩ := gn_some hf
    refine lv_idiv hx hb dX11_readDrum_251 z9 ?_
    refine lv_goto (tgt := 259) hx hb dX11_readDrum_252 (by decide) ?_
    exact w_F_mX11_readDrum_259 hA cx hb81 _ _ _ _ _ _ _ _ hf (lv_sub hl [0, 1, 2] rfl) hP hS
set_option maxHeartbeats 4000000 in
set_option maxRecDepth 100000 in
theorem w_F_mX11_readDrum_188 {p : Program} {l : Launch} {e : Env} {s : State} {m : MethodId} {args : Array Value} {below : List Frame} {meth : Method} {c : Code} {D : va_G} {C : Nat → ClassId} {A adK adV : Nat → Nat} (hA : apA A 33) (cx : Cxx D C adK adV (fxA A 33) p s m args meth c cX11_readDrum 3 RX11 (some .boolean)) {res : (Int32 × St)} {b81 : St → Option (Int32 × St)} (hb81 : ∀  (σ : St) (H : Heap) (locs : List Loc) (ls : Array Slot), b81 σ = some res → lv_has ls 3 [(0, .ref (A 0))] → va_P D vwCl (wM A C σ) H → va_S (fxA A 33) s.heap H locs → W p l e rm_X11_readDrum s m args below meth c H locs 0 0 (MQ below (Qcx D (wM A C) (fxA A 33) (some (.int res.1)) res.2) args s 0 0 (fxA A 33)) (F0 m 81 ls [])) : ∀ (x1 : Int32) (x2 : Int32) (σ : St) (H : Heap) (locs : List Loc) (ls : Array Slot), F_mX11_readDrum_188 b81 x1 x2 σ = some res → lv_has ls 3 [(0, .ref (A 0)), (1, .int x1), (2, .int x2)] → va_P D vwCl (wM A C σ) H → va_S (fxA A 33) s.heap H locs → W p l e rm_X11_readDrum s m args below meth c H locs 0 0 (MQ below (Qcx D (wM A C) (fxA A 33) (some (.int res.1)) res.2) args s 0 0 (fxA A 33)) (F0 m 188 ls []) := by
  obtain ⟨hx, hb, hml, hown, hts, hK, hr, hlk, hZ⟩ := id cx
  intro x1 x2 σ H locs ls hf hl hP hS
  refine lv_aload_n hx hb dX11_readDrum_188 rfl (lv_at hl 0 rfl) ?_
  refine gM_0_12 hx hb hts hown hK hP (v := (σ.1 10)) rfl (hts _ kw_414) dX11_readDrum_189 ?_
  refine lv_aload_n hx hb dX11_readDrum_192 rfl (lv_at hl 0 rfl) ?_
  refine gM_0_6 hx hb hts hown hK hP (v := (σ.1 5)) rfl (hts _ kw_434) dX11_readDrum_193 ?_
  obtain ⟨z12, hf⟩ := gn_some hf
  refine lv_irem hx hb dX11_readDrum_196 z12 ?_
  refine lv_if_eq (tgt := 233) hx hb dX11_readDrum_197 (by decide) (fun c13 => ?_) (fun c13 => ?_)
  · have hf := (if_pos c13).symm.trans hf
    exact w_F_mX11_readDrum_233 hA cx hb81 _ _ _ _ _ _ hf (lv_sub hl [0, 1, 2] rfl) hP hS
  · have hf := (if_neg c13).symm.trans hf
    refine lv_goto (tgt := 227) hx hb dX11_readDrum_200 (by decide) ?_
    exact w_F_mX11_readDrum_227 hA cx _ _ _ _ hf (lv_sub hl [0] rfl) hP hS
set_option maxHeartbeats 4000000 in
set_option maxRecDepth 100000 in
theorem w_F_mX11_readDrum_81 {p : Program} {l : Launch} {e : Env} {s : State} {m : MethodId} {args : Array Value} {below : List Frame} {meth : Method} {c : Code} {D : va_G} {C : Nat → ClassId} {A adK adV : Nat → Nat} (hA : apA A 33) (cx : Cxx D C adK adV (fxA A 33) p s m args meth c cX11_readDrum 3 RX11 (some .boolean)) {res : (Int32 × St)} : ∀ (n : Nat), ∀ (σ : St) (H : Heap) (locs : List Loc) (ls : Array Slot), F_mX11_readDrum_81 n σ = some res → lv_has ls 3 [(0, .ref (A 0))] → va_P D vwCl (wM A C σ) H → va_S (fxA A 33) s.heap H locs → W p l e rm_X11_readDrum s m args below meth c H locs 0 0 (MQ below (Qcx D (wM A C) (fxA A 33) (some (.int res.1)) res.2) args s 0 0 (fxA A 33)) (F0 m 81 ls []) := by
  obtain ⟨hx, hb, hml, hown, hts, hK, hr, hlk, hZ⟩ := id cx
  intro n
  induction n with
  | zero =>
    intro σ H locs ls hf hl hP hS
    exact absurd (show (none : Option (Int32 × St)) = some res from hf) (by intro h; cases h)
  | succ n ih =>
    intro σ H locs ls hf hl hP hS
    refine lv_aload_n hx hb dX11_readDrum_81 rfl (lv_at hl 0 rfl) ?_
    refine va_ldcS hx hb hown (hZ.2.1 15 (by decide)) dX11_readDrum_82 ?_
    obtain ⟨⟨r14, σ_r14⟩, h_r14, hf⟩ := bd_some hf
    refine cx_V (As := [.ref (adK 15)]) (rest := []) cx (ct_mX11_keyOf l D C A adK adV hA (by decide) h_r14) (cw_X11_177 hts ⟨Nat.le_of_ble_eq_true rfl, Nat.le_of_ble_eq_true rfl⟩) (va_recv hK hP (ci := 11) (q0 := 0) rfl (wM_0 A C _)) hP hS rfl hl.1 rfl (Nat.le_of_ble_eq_true rfl) dX11_readDrum_84 ⟨Nat.zero_le _, Nat.zero_le _⟩ (fun H locs hP hS => ?_)
    refine lv_istore_n (lv' := [(1, .int r14), (0, .ref (A 0))]) hx hb dX11_readDrum_87 rfl hl (by decide) rfl (fun ls hl => ?_)
    refine lv_iload_n hx hb dX11_readDrum_88 rfl (lv_at hl 0 rfl) ?_
    refine lv_iconst (v := 1) hx hb dX11_readDrum_89 (by decide) ?_
    refine lv_iconst (v := 3) hx hb dX11_readDrum_90 (by decide) ?_
    obtain ⟨⟨r15, σ_r15⟩, h_r15, hf⟩ := bd_some hf
    refine cx_S (As := [.int r14, .int 1, .int 3]) (rest := []) cx (ct_mX11_in l D C A adK adV hA h_r15) (cw_X11_181 hts ⟨Nat.le_of_ble_eq_true rfl, Nat.le_of_ble_eq_true rfl⟩) hP hS rfl hl.1 rfl (Nat.le_of_ble_eq_true rfl) dX11_readDrum_91 ⟨Nat.zero_le _, Nat.zero_le _⟩ (fun H locs hP hS => ?_)
    refine lv_if_ne (tgt := 103) hx hb dX11_readDrum_94 (by decide) (fun c16 => ?_) (fun c16 => ?_)
    · have hf := (if_neg c16).symm.trans hf
      refine lv_aload_n hx hb dX11_readDrum_103 rfl (lv_at hl 1 rfl) ?_
      refine gM_0_13 hx hb hts hown hK hP (v := (σ_r15.1 11)) rfl (hts _ kw_415) dX11_readDrum_104 ?_
      refine lv_iconst (v := 4) hx hb dX11_readDrum_107 (by decide) ?_
      refine lv_icmp_ne (tgt := 117) hx hb dX11_readDrum_108 (by decide) (fun c17 => ?_) (fun c17 => ?_)
      · have hf := (if_neg c17).symm.trans hf
        refine lv_aload_n hx hb dX11_readDrum_117 rfl (lv_at hl 1 rfl) ?_
        obtain ⟨σ_r18, h_r18, hf⟩ := bv_some hf
        refine cx_V (As := []) (rest := []) cx (ct_mX11_scan l D C A adK adV hA h_r18) (cw_X11_166 hts ⟨Nat.le_of_ble_eq_true rfl, Nat.le_of_ble_eq_true rfl⟩) (va_recv hK hP (ci := 11) (q0 := 0) rfl (wM_0 A C _)) hP hS rfl hl.1 rfl (Nat.le_of_ble_eq_true rfl) dX11_readDrum_118 ⟨Nat.zero_le _, Nat.zero_le _⟩ (fun H locs hP hS => ?_)
        refine lv_iconst (v := 4) hx hb dX11_readDrum_121 (by decide) ?_
        refine lv_aload_n hx hb dX11_readDrum_122 rfl (lv_at hl 1 rfl) ?_
        refine gM_0_13 hx hb hts hown hK hP (v := (σ_r18.1 11)) rfl (hts _ kw_415) dX11_readDrum_123 ?_
        refine lv_iadd hx hb dX11_readDrum_126 ?_
        refine lv_istore_n (lv' := [(2, .int (4 + (σ_r18.1 11))), (1, .int r14), (0, .ref (A 0))]) hx hb dX11_readDrum_127 rfl hl (by decide) rfl (fun ls hl => ?_)
        refine lv_aload_n hx hb dX11_readDrum_128 rfl (lv_at hl 2 rfl) ?_
        refine gM_0_14 hx hb hts hown hK hP (hts _ kw_154) dX11_readDrum_129 ?_
        refine lv_iload_n hx hb dX11_readDrum_132 rfl (lv_at hl 0 rfl) ?_
        refine lv_aload_n hx hb dX11_readDrum_133 rfl (lv_at hl 2 rfl) ?_
        refine gM_0_12 hx hb hts hown hK hP (v := (σ_r18.1 10)) rfl (hts _ kw_414) dX11_readDrum_134 ?_
        obtain ⟨z19, hf⟩ := gd_some hf
        refine pM_a2 hx hb hK hP hA hS (ib_in z19) dX11_readDrum_137 (fun H locs hP hS => ?_)
        refine lv_aload_n hx hb dX11_readDrum_138 rfl (lv_at hl 2 rfl) ?_
        refine gM_0_15 hx hb hts hown hK hP (hts _ kw_155) dX11_readDrum_139 ?_
        refine lv_iload_n hx hb dX11_readDrum_142 rfl (lv_at hl 0 rfl) ?_
        refine lv_aload_n hx hb dX11_readDrum_143 rfl (lv_at hl 2 rfl) ?_
        refine gM_0_12 hx hb hts hown hK hP (v := (σ_r18.1 10)) rfl (hts _ kw_414) dX11_readDrum_144 ?_
        refine pM_a3 hx hb hK hP hA hS (ib_in z19) dX11_readDrum_147 (fun H locs hP hS => ?_)
        refine lv_iload_n hx hb dX11_readDrum_148 rfl (lv_at hl 1 rfl) ?_
        refine lv_iconst (v := 1) hx hb dX11_readDrum_149 (by decide) ?_
        refine lv_icmp_eq (tgt := 279) hx hb dX11_readDrum_150 (by decide) (fun c20 => ?_) (fun c20 => ?_)
        · have hf := (if_pos c20).symm.trans hf
          have hP : va_P D vwCl (wM A C (sA (sA σ_r18 2 (upd (σ_r18.2.1 2) (4 + (σ_r18.1 11)).toNatClampNeg (σ_r18.1 10))) 3 (upd (σ_r18.2.1 3) (4 + (σ_r18.1 11)).toNatClampNeg (σ_r18.1 10)))) H := hP
          exact w_F_mX11_readDrum_279 hA cx ih _ _ _ _ hf (lv_sub hl [2] rfl) hP hS
        · have hf := (if_neg c20).symm.trans hf
          refine lv_aload_n hx hb dX11_readDrum_153 rfl (lv_at hl 2 rfl) ?_
          refine gM_0_3 hx hb hts hown hK hP (v := (σ_r18.1 2)) rfl (hts _ kw_430) dX11_readDrum_154 ?_
          refine lv_iconst (v := 2) hx hb dX11_readDrum_157 (by decide) ?_
          refine lv_icmp_eq (tgt := 167) hx hb dX11_readDrum_158 (by decide) (fun c21 => ?_) (fun c21 => ?_)
          · have hf := (if_pos c21).symm.trans hf
            refine lv_iload_n hx hb dX11_readDrum_167 rfl (lv_at hl 1 rfl) ?_
            refine lv_iconst (v := 2) hx hb dX11_readDrum_168 (by decide) ?_
            refine lv_icmp_ne (tgt := 203) hx hb dX11_readDrum_169 (by decide) (fun c22 => ?_) (fun c22 => ?_)
            · have hf := (if_neg c22).symm.trans hf
              refine lv_aload_n hx hb dX11_readDrum_203 rfl (lv_at hl 2 rfl) ?_
              refine gM_0_6 hx hb hts hown hK hP (v := (σ_r18.1 5)) rfl (hts _ kw_434) dX11_readDrum_204 ?_
              refine lv_iconst (v := 2) hx hb dX11_readDrum_207 (by decide) ?_
              refine lv_bipush (v := 8) hx hb dX11_readDrum_208 (by decide) ?_
              have hP : va_P D vwCl (wM A C (sA (sA σ_r18 2 (upd (σ_r18.2.1 2) (4 + (σ_r18.1 11)).toNatClampNeg (σ_r18.1 10))) 3 (upd (σ_r18.2.1 3) (4 + (σ_r18.1 11)).toNatClampNeg (σ_r18.1 10)))) H := hP
              obtain ⟨⟨r23, σ_r23⟩, h_r23, hf⟩ := bd_some hf
              refine cx_S (As := [.int (σ_r18.1 5), .int 2, .int 8]) (rest := []) cx (ct_mX11_in l D C A adK adV hA h_r23) (cw_X11_181 hts ⟨Nat.le_of_ble_eq_true rfl, Nat.le_of_ble_eq_true rfl⟩) hP hS rfl hl.1 rfl (Nat.le_of_ble_eq_true rfl) dX11_readDrum_210 ⟨Nat.zero_le _, Nat.zero_le _⟩ (fun H locs hP hS => ?_)
              refine lv_if_eq (tgt := 227) hx hb dX11_readDrum_213 (by decide) (fun c24 => ?_) (fun c24 => ?_)
              · have hf := (if_pos c24).symm.trans hf
                exact w_F_mX11_readDrum_227 hA cx _ _ _ _ hf (lv_sub hl [2] rfl) hP hS
              · have hf := (if_neg c24).symm.trans hf
                refine lv_aload_n hx hb dX11_readDrum_216 rfl (lv_at hl 2 rfl) ?_
                refine gM_0_6 hx hb hts hown hK hP (v := (σ_r23.1 5)) rfl (hts _ kw_434) dX11_readDrum_217 ?_
                refine lv_aload_n hx hb dX11_readDrum_220 rfl (lv_at hl 2 rfl) ?_
                refine gM_0_12 hx hb hts hown hK hP (v := (σ_r23.1 10)) rfl (hts _ kw_414) dX11_readDrum_221 ?_
                refine lv_icmp_le (tgt := 233) hx hb dX11_readDrum_224 (by decide) (fun c25 => ?_) (fun c25 => ?_)
                · have hf := (if_pos c25).symm.trans hf
                  exact w_F_mX11_readDrum_233 hA cx ih _ _ _ _ _ _ hf (lv_sub hl [2, 1, 0] rfl) hP hS
                · have hf := (if_neg c25).symm.trans hf
                  exact w_F_mX11_readDrum_227 hA cx _ _ _ _ hf (lv_sub hl [2] rfl) hP hS
            · have hf := (if_pos c22).symm.trans hf
              refine lv_aload_n hx hb dX11_readDrum_172 rfl (lv_at hl 2 rfl) ?_
              refine gM_0_6 hx hb hts hown hK hP (v := (σ_r18.1 5)) rfl (hts _ kw_434) dX11_readDrum_173 ?_
              refine lv_iconst (v := 2) hx hb dX11_readDrum_176 (by decide) ?_
              refine lv_icmp_eq (tgt := 188) hx hb dX11_readDrum_177 (by decide) (fun c26 => ?_) (fun c26 => ?_)
              · have hf := (if_pos c26).symm.trans hf
                have hP : va_P D vwCl (wM A C (sA (sA σ_r18 2 (upd (σ_r18.2.1 2) (4 + (σ_r18.1 11)).toNatClampNeg (σ_r18.1 10))) 3 (upd (σ_r18.2.1 3) (4 + (σ_r18.1 11)).toNatClampNeg (σ_r18.1 10)))) H := hP
                exact w_F_mX11_readDrum_188 hA cx ih _ _ _ _ _ _ hf (lv_sub hl [2, 1, 0] rfl) hP hS
              · have hf := (if_neg c26).symm.trans hf
                refine lv_aload_n hx hb dX11_readDrum_180 rfl (lv_at hl 2 rfl) ?_
                refine gM_0_6 hx hb hts hown hK hP (v := (σ_r18.1 5)) rfl (hts _ kw_434) dX11_readDrum_181 ?_
                refine lv_iconst (v := 4) hx hb dX11_readDrum_184 (by decide) ?_
                refine lv_icmp_ne (tgt := 227) hx hb dX11_readDrum_185 (by decide) (fun c27 => ?_) (fun c27 => ?_)
                · have hf := (if_neg c27).symm.trans hf
                  have hP : va_P D vwCl (wM A C (sA (sA σ_r18 2 (upd (σ_r18.2.1 2) (4 + (σ_r18.1 11)).toNatClampNeg (σ_r18.1 10))) 3 (upd (σ_r18.2.1 3) (4 + (σ_r18.1 11)).toNatClampNeg (σ_r18.1 10)))) H := hP
                  exact w_F_mX11_readDrum_227 hA cx _ _ _ _ hf (lv_sub hl [2] rfl) hP hS
                · have hf := (if_pos c27).symm.trans hf
                  have hP : va_P D vwCl (wM A C (sA (sA σ_r18 2 (upd (σ_r18.2.1 2) (4 + (σ_r18.1 11)).toNatClampNeg (σ_r18.1 10))) 3 (upd (σ_r18.2.1 3) (4 + (σ_r18.1 11)).toNatClampNeg (σ_r18.1 10)))) H := hP
                  exact w_F_mX11_readDrum_188 hA cx ih _ _ _ _ _ _ hf (lv_sub hl [2, 1, 0] rfl) hP hS
          · have hf := (if_neg c21).symm.trans hf
            refine lv_aload_n hx hb dX11_readDrum_161 rfl (lv_at hl 2 rfl) ?_
            refine lv_iconst (v := 1) hx hb dX11_readDrum_162 (by decide) ?_
            have hP : va_P D vwCl (wM A C (sA (sA σ_r18 2 (upd (σ_r18.2.1 2) (4 + (σ_r18.1 11)).toNatClampNeg (σ_r18.1 10))) 3 (upd (σ_r18.2.1 3) (4 + (σ_r18.1 11)).toNatClampNeg (σ_r18.1 10)))) H := hP
            obtain ⟨⟨r28, σ_r28⟩, h_r28, hf⟩ := bd_some hf
            refine cx_V (As := [.int 1]) (rest := []) cx (ct_mX11_fails l D C A adK adV hA h_r28) (cw_X11_172 hts ⟨Nat.le_of_ble_eq_true rfl, Nat.le_of_ble_eq_true rfl⟩) (va_recv hK hP (ci := 11) (q0 := 0) rfl (wM_0 A C _)) hP hS rfl hl.1 rfl (Nat.le_of_ble_eq_true rfl) dX11_readDrum_163 ⟨Nat.zero_le _, Nat.zero_le _⟩ (fun H locs hP hS => ?_)
            obtain ⟨z29, hf⟩ := gd_some hf
            exact cx_zret cx (nb_ok z29) hP hS hf dX11_readDrum_166
      · have hf := (if_pos c17).symm.trans hf
        refine lv_aload_n hx hb dX11_readDrum_111 rfl (lv_at hl 1 rfl) ?_
        refine lv_iconst (v := 4) hx hb dX11_readDrum_112 (by decide) ?_
        obtain ⟨⟨r30, σ_r30⟩, h_r30, hf⟩ := bd_some hf
        refine cx_V (As := [.int 4]) (rest := []) cx (ct_mX11_fails l D C A adK adV hA h_r30) (cw_X11_172 hts ⟨Nat.le_of_ble_eq_true rfl, Nat.le_of_ble_eq_true rfl⟩) (va_recv hK hP (ci := 11) (q0 := 0) rfl (wM_0 A C _)) hP hS rfl hl.1 rfl (Nat.le_of_ble_eq_true rfl) dX11_readDrum_113 ⟨Nat.zero_le _, Nat.zero_le _⟩ (fun H locs hP hS => ?_)
        obtain ⟨z31, hf⟩ := gd_some hf
        exact cx_zret cx (nb_ok z31) hP hS hf dX11_readDrum_116
    · have hf := (if_pos c16).symm.trans hf
      refine lv_aload_n hx hb dX11_readDrum_97 rfl (lv_at hl 1 rfl) ?_
      refine lv_iconst (v := 1) hx hb dX11_readDrum_98 (by decide) ?_
      obtain ⟨⟨r32, σ_r32⟩, h_r32, hf⟩ := bd_some hf
      refine cx_V (As := [.int 1]) (rest := []) cx (ct_mX11_fails l D C A adK adV hA h_r32) (cw_X11_172 hts ⟨Nat.le_of_ble_eq_true rfl, Nat.le_of_ble_eq_true rfl⟩) (va_recv hK hP (ci := 11) (q0 := 0) rfl (wM_0 A C _)) hP hS rfl hl.1 rfl (Nat.le_of_ble_eq_true rfl) dX11_readDrum_99 ⟨Nat.zero_le _, Nat.zero_le _⟩ (fun H locs hP hS => ?_)
      obtain ⟨z33, hf⟩ := gd_some hf
      exact cx_zret cx (nb_ok z33) hP hS hf dX11_readDrum_102
set_option maxHeartbeats 4000000 in
set_option maxRecDepth 100000 in
theorem ct_mX11_readDrum (l : Launch) (D : va_G) (C : Nat → ClassId) (A adK adV : Nat → Nat) (hA : apA A 33)  {σ : St} {res : (Int32 × St)} (hf : F_mX11_readDrum σ = some res) : Met l yX11_readDrum (Cond.code yX11_readDrum cX11_readDrum 3 (some .boolean) :: wsL_law) rm_X11_readDrum (Pcx D C (wM A C) adK adV (fxA A 33) [.ref (A 0)] σ) (Qcx D (wM A C) (fxA A 33) (some (.int res.1)) res.2) 0 0 (fxA A 33) := by
  refine Met.ofW (cc := cX11_readDrum) (maxL := 3) (ret := (some .boolean)) (by decide) rfl ?_
  intro p e s m args below meth c s₁ B hml hv
  obtain ⟨rfl, hP, hK, hZ⟩ := hv
  have cx : Cxx D C adK adV (fxA A 33) p s m _ meth c cX11_readDrum 3 RX11 (some .boolean) := ⟨B.exec, B.bytes, hml, findClass_of_methodNamed B.named, fun w h => atoms_spec (ws := Cond.code yX11_readDrum cX11_readDrum 3 (some .boolean) :: wsL_law) B.pre w (List.mem_cons_of_mem _ h), hK, B.returns, B.notSynchronized, hZ⟩
  obtain ⟨hx, hb, -, hown, hts, -, hr, hlk, -⟩ := id cx
  have hS : va_S (fxA A 33) s.heap s.heap [] := va_S.rf
  have hl := lv_entry ([.ref (A 0)]) (n := 3) (Nat.le_of_ble_eq_true rfl)
  rw [lg_entry_eq]
  generalize (lg_sl ([.ref (A 0)]) ++ List.replicate (3 - (lg_sl ([.ref (A 0)])).length) Slot.unset).toArray = ls at hl ⊢
  have hl : lv_has ls 3 [(0, .ref (A 0))] := hl
  show W p l e rm_X11_readDrum s m _ below meth c s.heap [] 0 0 _ _
  refine lv_aload_n hx hb dX11_readDrum_0 rfl (lv_at hl 0 rfl) ?_
  refine va_ldcS hx hb hown (hZ.2.1 15 (by decide)) dX11_readDrum_1 ?_
  obtain ⟨⟨r34, σ_r34⟩, h_r34, hf⟩ := bd_some hf
  refine cx_V (As := [.ref (adK 15)]) (rest := []) cx (ct_mX11_keyOf l D C A adK adV hA (by decide) h_r34) (cw_X11_177 hts ⟨Nat.le_of_ble_eq_true rfl, Nat.le_of_ble_eq_true rfl⟩) (va_recv hK hP (ci := 11) (q0 := 0) rfl (wM_0 A C _)) hP hS rfl hl.1 rfl (Nat.le_of_ble_eq_true rfl) dX11_readDrum_3 ⟨Nat.zero_le _, Nat.zero_le _⟩ (fun H locs hP hS => ?_)
  refine lv_if_eq (tgt := 15) hx hb dX11_readDrum_6 (by decide) (fun c35 => ?_) (fun c35 => ?_)
  · have hf := (if_pos c35).symm.trans hf
    refine lv_aload_n hx hb dX11_readDrum_15 rfl (lv_at hl 0 rfl) ?_
    obtain ⟨σ_r36, h_r36, hf⟩ := bv_some hf
    refine cx_V (As := []) (rest := []) cx (ct_mX11_scan l D C A adK adV hA h_r36) (cw_X11_166 hts ⟨Nat.le_of_ble_eq_true rfl, Nat.le_of_ble_eq_true rfl⟩) (va_recv hK hP (ci := 11) (q0 := 0) rfl (wM_0 A C _)) hP hS rfl hl.1 rfl (Nat.le_of_ble_eq_true rfl) dX11_readDrum_16 ⟨Nat.zero_le _, Nat.zero_le _⟩ (fun H locs hP hS => ?_)
    refine lv_aload_n hx hb dX11_readDrum_19 rfl (lv_at hl 0 rfl) ?_
    refine gM_0_3 hx hb hts hown hK hP (v := (σ_r36.1 2)) rfl (hts _ kw_430) dX11_readDrum_20 ?_
    refine lv_iconst (v := 2) hx hb dX11_readDrum_23 (by decide) ?_
    refine lv_icmp_eq (tgt := 33) hx hb dX11_readDrum_24 (by decide) (fun c37 => ?_) (fun c37 => ?_)
    · have hf := (if_pos c37).symm.trans hf
      refine lv_aload_n hx hb dX11_readDrum_33 rfl (lv_at hl 0 rfl) ?_
      refine gM_0_6 hx hb hts hown hK hP (v := (σ_r36.1 5)) rfl (hts _ kw_434) dX11_readDrum_34 ?_
      refine lv_bipush (v := 8) hx hb dX11_readDrum_37 (by decide) ?_
      refine lv_bipush (v := 32) hx hb dX11_readDrum_39 (by decide) ?_
      obtain ⟨⟨r38, σ_r38⟩, h_r38, hf⟩ := bd_some hf
      refine cx_S (As := [.int (σ_r36.1 5), .int 8, .int 32]) (rest := []) cx (ct_mX11_in l D C A adK adV hA h_r38) (cw_X11_181 hts ⟨Nat.le_of_ble_eq_true rfl, Nat.le_of_ble_eq_true rfl⟩) hP hS rfl hl.1 rfl (Nat.le_of_ble_eq_true rfl) dX11_readDrum_41 ⟨Nat.zero_le _, Nat.zero_le _⟩ (fun H locs hP hS => ?_)
      refine lv_if_ne (tgt := 53) hx hb dX11_readDrum_44 (by decide) (fun c39 => ?_) (fun c39 => ?_)
      · have hf := (if_neg c39).symm.trans hf
        refine lv_aload_n hx hb dX11_readDrum_53 rfl (lv_at hl 0 rfl) ?_
        refine lv_aload_n hx hb dX11_readDrum_54 rfl (lv_at hl 0 rfl) ?_
        refine gM_0_6 hx hb hts hown hK hP (v := (σ_r38.1 5)) rfl (hts _ kw_434) dX11_readDrum_55 ?_
        refine pM_0_12 hx hb hts hown hK hP hA hS (hts _ kw_414) dX11_readDrum_58 (fun H locs hP hS => ?_)
        refine lv_aload_n hx hb dX11_readDrum_61 rfl (lv_at hl 0 rfl) ?_
        have hP : va_P D vwCl (wM A C (sI σ_r38 10 (σ_r38.1 5))) H := hP
        obtain ⟨σ_r40, h_r40, hf⟩ := bv_some hf
        refine cx_V (As := []) (rest := []) cx (ct_mX11_scan l D C A adK adV hA h_r40) (cw_X11_166 hts ⟨Nat.le_of_ble_eq_true rfl, Nat.le_of_ble_eq_true rfl⟩) (va_recv hK hP (ci := 11) (q0 := 0) rfl (wM_0 A C _)) hP hS rfl hl.1 rfl (Nat.le_of_ble_eq_true rfl) dX11_readDrum_62 ⟨Nat.zero_le _, Nat.zero_le _⟩ (fun H locs hP hS => ?_)
        refine lv_aload_n hx hb dX11_readDrum_65 rfl (lv_at hl 0 rfl) ?_
        refine lv_bipush (v := 59) hx hb dX11_readDrum_66 (by decide) ?_
        obtain ⟨⟨r41, σ_r41⟩, h_r41, hf⟩ := bd_some hf
        refine cx_V (As := [.int 59]) (rest := []) cx (ct_mX11_readSign l D C A adK adV hA h_r41) (cw_X11_188 hts ⟨Nat.le_of_ble_eq_true rfl, Nat.le_of_ble_eq_true rfl⟩) (va_recv hK hP (ci := 11) (q0 := 0) rfl (wM_0 A C _)) hP hS rfl hl.1 rfl (Nat.le_of_ble_eq_true rfl) dX11_readDrum_68 ⟨Nat.zero_le _, Nat.zero_le _⟩ (fun H locs hP hS => ?_)
        refine lv_if_ne (tgt := 76) hx hb dX11_readDrum_71 (by decide) (fun c42 => ?_) (fun c42 => ?_)
        · have hf := (if_neg c42).symm.trans hf
          refine lv_aload_n hx hb dX11_readDrum_76 rfl (lv_at hl 0 rfl) ?_
          refine lv_iconst (v := 0) hx hb dX11_readDrum_77 (by decide) ?_
          refine pM_0_13 hx hb hts hown hK hP hA hS (hts _ kw_415) dX11_readDrum_78 (fun H locs hP hS => ?_)
          have hP : va_P D vwCl (wM A C (sI σ_r41 11 0)) H := hP
          exact w_F_mX11_readDrum_81 hA cx FU _ _ _ _ hf (lv_sub hl [0] rfl) hP hS
        · have hf := (if_pos c42).symm.trans hf
          refine lv_iconst (v := 0) hx hb dX11_readDrum_74 (by decide) ?_
          exact cx_zret cx rfl hP hS hf dX11_readDrum_75
      · have hf := (if_pos c39).symm.trans hf
        refine lv_aload_n hx hb dX11_readDrum_47 rfl (lv_at hl 0 rfl) ?_
        refine lv_iconst (v := 2) hx hb dX11_readDrum_48 (by decide) ?_
        obtain ⟨⟨r43, σ_r43⟩, h_r43, hf⟩ := bd_some hf
        refine cx_V (As := [.int 2]) (rest := []) cx (ct_mX11_fails l D C A adK adV hA h_r43) (cw_X11_172 hts ⟨Nat.le_of_ble_eq_true rfl, Nat.le_of_ble_eq_true rfl⟩) (va_recv hK hP (ci := 11) (q0 := 0) rfl (wM_0 A C _)) hP hS rfl hl.1 rfl (Nat.le_of_ble_eq_true rfl) dX11_readDrum_49 ⟨Nat.zero_le _, Nat.zero_le _⟩ (fun H locs hP hS => ?_)
        obtain ⟨z44, hf⟩ := gd_some hf
        exact cx_zret cx (nb_ok z44) hP hS hf dX11_readDrum_52
    · have hf := (if_neg c37).symm.trans hf
      refine lv_aload_n hx hb dX11_readDrum_27 rfl (lv_at hl 0 rfl) ?_
      refine lv_iconst (v := 1) hx hb dX11_readDrum_28 (by decide) ?_
      obtain ⟨⟨r45, σ_r45⟩, h_r45, hf⟩ := bd_some hf
      refine cx_V (As := [.int 1]) (rest := []) cx (ct_mX11_fails l D C A adK adV hA h_r45) (cw_X11_172 hts ⟨Nat.le_of_ble_eq_true rfl, Nat.le_of_ble_eq_true rfl⟩) (va_recv hK hP (ci := 11) (q0 := 0) rfl (wM_0 A C _)) hP hS rfl hl.1 rfl (Nat.le_of_ble_eq_true rfl) dX11_readDrum_29 ⟨Nat.zero_le _, Nat.zero_le _⟩ (fun H locs hP hS => ?_)
      obtain ⟨z46, hf⟩ := gd_some hf
      exact cx_zret cx (nb_ok z46) hP hS hf dX11_readDrum_32
  · have hf := (if_neg c35).symm.trans hf
    refine lv_aload_n hx hb dX11_readDrum_9 rfl (lv_at hl 0 rfl) ?_
    refine lv_iconst (v := 1) hx hb dX11_readDrum_10 (by decide) ?_
    obtain ⟨⟨r47, σ_r47⟩, h_r47, hf⟩ := bd_some hf
    refine cx_V (As := [.int 1]) (rest := []) cx (ct_mX11_fails l D C A adK adV hA h_r47) (cw_X11_172 hts ⟨Nat.le_of_ble_eq_true rfl, Nat.le_of_ble_eq_true rfl⟩) (va_recv hK hP (ci := 11) (q0 := 0) rfl (wM_0 A C _)) hP hS rfl hl.1 rfl (Nat.le_of_ble_eq_true rfl) dX11_readDrum_11 ⟨Nat.zero_le _, Nat.zero_le _⟩ (fun H locs hP hS => ?_)
    obtain ⟨z48, hf⟩ := gd_some hf
    exact cx_zret cx (nb_ok z48) hP hS hf dX11_readDrum_14
set_option maxHeartbeats 4000000 in
set_option maxRecDepth 100000 in
theorem w_F_mX11_drum_91 {p : Program} {l : Launch} {e : Env} {s : State} {m : MethodId} {args : Array Value} {below : List Frame} {meth : Method} {c : Code} {D : va_G} {C : Nat → ClassId} {A adK adV : Nat → Nat} (hA : apA A 33) (cx : Cxx D C adK adV (fxA A 33) p s m args meth c cX11_drum 2 RX11 (some .int)) {res : (Int32 × St)} : ∀ (σ : St) (H : Heap) (locs : List Loc) (ls : Array Slot), F_mX11_drum_91 σ = some res → lv_has ls 2 [(0, .ref (A 0))] → va_P D vwCl (wM A C σ) H → va_S (fxA A 33) s.heap H locs → W p l e rm_X11_drum s m args below meth c H locs 0 0 (MQ below (Qcx D (wM A C) (fxA A 33) (some (.int res.1)) res.2) args s 0 0 (fxA A 33)) (F0 m 91 ls []) := by
  obtain ⟨hx, hb, hml, hown, hts, hK, hr, hlk, hZ⟩ := id cx
  intro σ H locs ls hf hl hP hS
  refine lv_aload_n hx hb dX11_drum_91 rfl (lv_at hl 0 rfl) ?_
  obtain ⟨σ_r1, h_r1, hf⟩ := bv_some hf
  refine cx_V (As := []) (rest := []) cx (ct_mX11_layFirst l D C A adK adV hA h_r1) (cw_X11_217 hts ⟨Nat.le_of_ble_eq_true rfl, Nat.le_of_ble_eq_true rfl⟩) (va_recv hK hP (ci := 11) (q0 := 0) rfl (wM_0 A C _)) hP hS rfl hl.1 rfl (Nat.le_of_ble_eq_true rfl) dX11_drum_92 ⟨Nat.zero_le _, Nat.zero_le _⟩ (fun H locs hP hS => ?_)
  refine lv_aload_n hx hb dX11_drum_95 rfl (lv_at hl 0 rfl) ?_
  obtain ⟨⟨r2, σ_r2⟩, h_r2, hf⟩ := bd_some hf
  refine cx_V (As := []) (rest := []) cx (ct_mX11_spots l D C A adK adV hA h_r2) (cw_X11_211 hts ⟨Nat.le_of_ble_eq_true rfl, Nat.le_of_ble_eq_true rfl⟩) (va_recv hK hP (ci := 11) (q0 := 0) rfl (wM_0 A C _)) hP hS rfl hl.1 rfl (Nat.le_of_ble_eq_true rfl) dX11_drum_96 ⟨Nat.zero_le _, Nat.zero_le _⟩ (fun H locs hP hS => ?_)
  exact cx_iret cx hP hS hf dX11_drum_99
set_option maxHeartbeats 4000000 in
set_option maxRecDepth 100000 in
theorem w_F_mX11_drum_31 {p : Program} {l : Launch} {e : Env} {s : State} {m : MethodId} {args : Array Value} {below : List Frame} {meth : Method} {c : Code} {D : va_G} {C : Nat → ClassId} {A adK adV : Nat → Nat} (hA : apA A 33) (cx : Cxx D C adK adV (fxA A 33) p s m args meth c cX11_drum 2 RX11 (some .int)) {res : (Int32 × St)} : ∀ (n : Nat), ∀ (x1 : Int32) (σ : St) (H : Heap) (locs : List Loc) (ls : Array Slot), F_mX11_drum_31 n x1 σ = some res → lv_has ls 2 [(0, .ref (A 0)), (1, .int x1)] → va_P D vwCl (wM A C σ) H → va_S (fxA A 33) s.heap H locs → W p l e rm_X11_drum s m args below meth c H locs 0 0 (MQ below (Qcx D (wM A C) (fxA A 33) (some (.int res.1)) res.2) args s 0 0 (fxA A 33)) (F0 m 31 ls []) := by
  obtain ⟨hx, hb, hml, hown, hts, hK, hr, hlk, hZ⟩ := id cx
  intro n
  induction n with
  | zero =>
    intro x1 σ H locs ls hf hl hP hS
    exact absurd (show (none : Option (Int32 × St)) = some res from hf) (by intro h; cases h)
  | succ n ih =>
    intro x1 σ H locs ls hf hl hP hS
    refine lv_iload_n hx hb dX11_drum_31 rfl (lv_at hl 1 rfl) ?_
    refine lv_iconst (v := 4) hx hb dX11_drum_32 (by decide) ?_
    refine lv_icmp_ge (tgt := 70) hx hb dX11_drum_33 (by decide) (fun c3 => ?_) (fun c3 => ?_)
    · have hf := (if_pos c3).symm.trans hf
      refine lv_aload_n hx hb dX11_drum_70 rfl (lv_at hl 0 rfl) ?_
      obtain ⟨⟨r4, σ_r4⟩, h_r4, hf⟩ := bd_some hf
      refine cx_V (As := []) (rest := []) cx (ct_mX11_spots l D C A adK adV hA h_r4) (cw_X11_211 hts ⟨Nat.le_of_ble_eq_true rfl, Nat.le_of_ble_eq_true rfl⟩) (va_recv hK hP (ci := 11) (q0 := 0) rfl (wM_0 A C _)) hP hS rfl hl.1 rfl (Nat.le_of_ble_eq_true rfl) dX11_drum_71 ⟨Nat.zero_le _, Nat.zero_le _⟩ (fun H locs hP hS => ?_)
      refine lv_aload_n hx hb dX11_drum_74 rfl (lv_at hl 0 rfl) ?_
      refine gM_0_17 hx hb hts hown hK hP (v := (σ_r4.1 12)) rfl (hts _ kw_416) dX11_drum_75 ?_
      refine lv_icmp_ge (tgt := 91) hx hb dX11_drum_78 (by decide) (fun c5 => ?_) (fun c5 => ?_)
      · have hf := (if_pos c5).symm.trans hf
        exact w_F_mX11_drum_91 hA cx _ _ _ _ hf (lv_sub hl [0] rfl) hP hS
      · have hf := (if_neg c5).symm.trans hf
        refine lv_aload_n hx hb dX11_drum_81 rfl (lv_at hl 0 rfl) ?_
        refine lv_iconst (v := 0) hx hb dX11_drum_82 (by decide) ?_
        refine pM_0_17 hx hb hts hown hK hP hA hS (hts _ kw_416) dX11_drum_83 (fun H locs hP hS => ?_)
        refine lv_aload_n hx hb dX11_drum_86 rfl (lv_at hl 0 rfl) ?_
        refine lv_iconst (v := 0) hx hb dX11_drum_87 (by decide) ?_
        refine pM_0_18 hx hb hts hown hK hP hA hS (hts _ kw_417) dX11_drum_88 (fun H locs hP hS => ?_)
        have hP : va_P D vwCl (wM A C (sI (sI σ_r4 12 0) 13 0)) H := hP
        exact w_F_mX11_drum_91 hA cx _ _ _ _ hf (lv_sub hl [0] rfl) hP hS
    · have hf := (if_neg c3).symm.trans hf
      refine lv_aload_n hx hb dX11_drum_36 rfl (lv_at hl 0 rfl) ?_
      refine gM_0_14 hx hb hts hown hK hP (hts _ kw_154) dX11_drum_37 ?_
      refine lv_iload_n hx hb dX11_drum_40 rfl (lv_at hl 1 rfl) ?_
      refine lv_aload_n hx hb dX11_drum_41 rfl (lv_at hl 0 rfl) ?_
      refine gM_0_14 hx hb hts hown hK hP (hts _ kw_154) dX11_drum_42 ?_
      refine lv_iconst (v := 4) hx hb dX11_drum_45 (by decide) ?_
      refine lv_iload_n hx hb dX11_drum_46 rfl (lv_at hl 1 rfl) ?_
      refine lv_iadd hx hb dX11_drum_47 ?_
      obtain ⟨z6, hf⟩ := gd_some hf
      refine gM_a2 hx hb hK hP (ib_in z6) (v := (σ.2.1 2 (4 + x1).toNatClampNeg)) rfl dX11_drum_48 ?_
      obtain ⟨z7, hf⟩ := gd_some hf
      refine pM_a2 hx hb hK hP hA hS (ib_in z7) dX11_drum_49 (fun H locs hP hS => ?_)
      refine lv_aload_n hx hb dX11_drum_50 rfl (lv_at hl 0 rfl) ?_
      refine gM_0_15 hx hb hts hown hK hP (hts _ kw_155) dX11_drum_51 ?_
      refine lv_iload_n hx hb dX11_drum_54 rfl (lv_at hl 1 rfl) ?_
      refine lv_aload_n hx hb dX11_drum_55 rfl (lv_at hl 0 rfl) ?_
      refine gM_0_15 hx hb hts hown hK hP (hts _ kw_155) dX11_drum_56 ?_
      refine lv_iconst (v := 4) hx hb dX11_drum_59 (by decide) ?_
      refine lv_iload_n hx hb dX11_drum_60 rfl (lv_at hl 1 rfl) ?_
      refine lv_iadd hx hb dX11_drum_61 ?_
      refine gM_a3 hx hb hK hP (ib_in z6) (v := (σ.2.1 3 (4 + x1).toNatClampNeg)) rfl dX11_drum_62 ?_
      refine pM_a3 hx hb hK hP hA hS (ib_in z7) dX11_drum_63 (fun H locs hP hS => ?_)
      refine lv_iinc (v := (x1 + 1)) (lv' := [(1, .int (x1 + 1)), (0, .ref (A 0))]) hx hb dX11_drum_64 hl (k := 1) rfl rfl (by decide) rfl (fun ls hl => ?_)
      refine lv_goto (tgt := 31) hx hb dX11_drum_67 (by decide) ?_
      have hP : va_P D vwCl (wM A C (sA (sA σ 2 (upd (σ.2.1 2) x1.toNatClampNeg (σ.2.1 2 (4 + x1).toNatClampNeg))) 3 (upd (σ.2.1 3) x1.toNatClampNeg (σ.2.1 3 (4 + x1).toNatClampNeg)))) H := hP
      exact ih _ _ _ _ _ hf (lv_sub hl [1, 0] rfl) hP hS
set_option maxHeartbeats 4000000 in
set_option maxRecDepth 100000 in
theorem ct_mX11_drum (l : Launch) (D : va_G) (C : Nat → ClassId) (A adK adV : Nat → Nat) (hA : apA A 33)  {σ : St} {res : (Int32 × St)} (hf : F_mX11_drum σ = some res) : Met l yX11_drum (Cond.code yX11_drum cX11_drum 2 (some .int) :: wsL_law) rm_X11_drum (Pcx D C (wM A C) adK adV (fxA A 33) [.ref (A 0)] σ) (Qcx D (wM A C) (fxA A 33) (some (.int res.1)) res.2) 0 0 (fxA A 33) := by
  refine Met.ofW (cc := cX11_drum) (maxL := 2) (ret := (some .int)) (by decide) rfl ?_
  intro p e s m args below meth c s₁ B hml hv
  obtain ⟨rfl, hP, hK, hZ⟩ := hv
  have cx : Cxx D C adK adV (fxA A 33) p s m _ meth c cX11_drum 2 RX11 (some .int) := ⟨B.exec, B.bytes, hml, findClass_of_methodNamed B.named, fun w h => atoms_spec (ws := Cond.code yX11_drum cX11_drum 2 (some .int) :: wsL_law) B.pre w (List.mem_cons_of_mem _ h), hK, B.returns, B.notSynchronized, hZ⟩
  obtain ⟨hx, hb, -, hown, hts, -, hr, hlk, -⟩ := id cx
  have hS : va_S (fxA A 33) s.heap s.heap [] := va_S.rf
  have hl := lv_entry ([.ref (A 0)]) (n := 2) (Nat.le_of_ble_eq_true rfl)
  rw [lg_entry_eq]
  generalize (lg_sl ([.ref (A 0)]) ++ List.replicate (2 - (lg_sl ([.ref (A 0)])).length) Slot.unset).toArray = ls at hl ⊢
  have hl : lv_has ls 2 [(0, .ref (A 0))] := hl
  show W p l e rm_X11_drum s m _ below meth c s.heap [] 0 0 _ _
  refine lv_aload_n hx hb dX11_drum_0 rfl (lv_at hl 0 rfl) ?_
  obtain ⟨σ_r8, h_r8, hf⟩ := bv_some hf
  refine cx_V (As := []) (rest := []) cx (ct_mX11_take l D C A adK adV hA h_r8) (cw_X11_204 hts ⟨Nat.le_of_ble_eq_true rfl, Nat.le_of_ble_eq_true rfl⟩) (va_recv hK hP (ci := 11) (q0 := 0) rfl (wM_0 A C _)) hP hS rfl hl.1 rfl (Nat.le_of_ble_eq_true rfl) dX11_drum_1 ⟨Nat.zero_le _, Nat.zero_le _⟩ (fun H locs hP hS => ?_)
  refine lv_aload_n hx hb dX11_drum_4 rfl (lv_at hl 0 rfl) ?_
  obtain ⟨⟨r9, σ_r9⟩, h_r9, hf⟩ := bd_some hf
  refine cx_V (As := []) (rest := []) cx (ct_mX11_readDrum l D C A adK adV hA h_r9) (cw_X11_207 hts ⟨Nat.le_of_ble_eq_true rfl, Nat.le_of_ble_eq_true rfl⟩) (va_recv hK hP (ci := 11) (q0 := 0) rfl (wM_0 A C _)) hP hS rfl hl.1 rfl (Nat.le_of_ble_eq_true rfl) dX11_drum_5 ⟨Nat.zero_le _, Nat.zero_le _⟩ (fun H locs hP hS => ?_)
  refine lv_if_ne (tgt := 13) hx hb dX11_drum_8 (by decide) (fun c10 => ?_) (fun c10 => ?_)
  · have hf := (if_neg c10).symm.trans hf
    refine lv_aload_n hx hb dX11_drum_13 rfl (lv_at hl 0 rfl) ?_
    refine lv_aload_n hx hb dX11_drum_14 rfl (lv_at hl 0 rfl) ?_
    refine gM_0_12 hx hb hts hown hK hP (v := (σ_r9.1 10)) rfl (hts _ kw_414) dX11_drum_15 ?_
    refine pM_0_10 hx hb hts hown hK hP hA hS (hts _ kw_186) dX11_drum_18 (fun H locs hP hS => ?_)
    refine lv_aload_n hx hb dX11_drum_21 rfl (lv_at hl 0 rfl) ?_
    refine lv_aload_n hx hb dX11_drum_22 rfl (lv_at hl 0 rfl) ?_
    refine gM_0_13 hx hb hts hown hK hP (v := (σ_r9.1 11)) rfl (hts _ kw_415) dX11_drum_23 ?_
    refine pM_0_11 hx hb hts hown hK hP hA hS (hts _ kw_187) dX11_drum_26 (fun H locs hP hS => ?_)
    refine lv_iconst (v := 0) hx hb dX11_drum_29 (by decide) ?_
    refine lv_istore_n (lv' := [(1, .int 0), (0, .ref (A 0))]) hx hb dX11_drum_30 rfl hl (by decide) rfl (fun ls hl => ?_)
    have hP : va_P D vwCl (wM A C (sI (sI σ_r9 8 (σ_r9.1 10)) 9 (σ_r9.1 11))) H := hP
    exact w_F_mX11_drum_31 hA cx FU _ _ _ _ _ hf (lv_sub hl [1, 0] rfl) hP hS
  · have hf := (if_pos c10).symm.trans hf
    refine lv_iconst (v := (-1)) hx hb dX11_drum_11 (by decide) ?_
    exact cx_iret cx hP hS hf dX11_drum_12
set_option maxHeartbeats 4000000 in
set_option maxRecDepth 100000 in
theorem w_F_mX11_find_3 {p : Program} {l : Launch} {e : Env} {s : State} {m : MethodId} {args : Array Value} {below : List Frame} {meth : Method} {c : Code} {D : va_G} {C : Nat → ClassId} {A adK adV : Nat → Nat} (hA : apA A 33) (cx : Cxx D C adK adV (fxA A 33) p s m args meth c cX11_find 5 RX11 (some .int)) {res : (Int32 × St)} : ∀ (n : Nat), ∀ (x1 : Int64) (x3 : Int32) (x4 : Int32) (σ : St) (H : Heap) (locs : List Loc) (ls : Array Slot), F_mX11_find_3 n x1 x3 x4 σ = some res → lv_has ls 5 [(0, .ref (A 0)), (1, .long x1), (3, .int x3), (4, .int x4)] → va_P D vwCl (wM A C σ) H → va_S (fxA A 33) s.heap H locs → W p l e rm_X11_find s m args below meth c H locs 0 0 (MQ below (Qcx D (wM A C) (fxA A 33) (some (.int res.1)) res.2) args s 0 0 (fxA A 33)) (F0 m 3 ls []) := by
  obtain ⟨hx, hb, hml, hown, hts, hK, hr, hlk, hZ⟩ := id cx
  intro n
  induction n with
  | zero =>
    intro x1 x3 x4 σ H locs ls hf hl hP hS
    exact absurd (show (none : Option (Int32 × St)) = some res from hf) (by intro h; cases h)
  | succ n ih =>
    intro x1 x3 x4 σ H locs ls hf hl hP hS
    refine lv_iload hx hb dX11_find_3 (lv_at hl 3 rfl) ?_
    refine lv_iload_n hx hb dX11_find_5 rfl (lv_at hl 2 rfl) ?_
    refine lv_icmp_ge (tgt := 30) hx hb dX11_find_6 (by decide) (fun c1 => ?_) (fun c1 => ?_)
    · have hf := (if_pos c1).symm.trans hf
      refine lv_iconst (v := (-1)) hx hb dX11_find_30 (by decide) ?_
      exact cx_iret cx hP hS hf dX11_find_31
    · have hf := (if_neg c1).symm.trans hf
      refine lv_aload_n hx hb dX11_find_9 rfl (lv_at hl 0 rfl) ?_
      refine gM_0_24 hx hb hts hown hK hP (hts _ kw_161) dX11_find_10 ?_
      refine lv_iload hx hb dX11_find_13 (lv_at hl 3 rfl) ?_
      obtain ⟨z2, hf⟩ := gd_some hf
      refine gM_a8 hx hb hK hP (ib_in z2) (v := (σ.2.2.2 8 x4.toNatClampNeg)) rfl dX11_find_15 ?_
      refine lv_lload_n hx hb dX11_find_16 rfl (lv_at hl 1 rfl) ?_
      refine W.lcmp hx hb dX11_find_17 ?_
      refine lv_if_ne (tgt := 24) hx hb dX11_find_18 (by decide) (fun c3 => ?_) (fun c3 => ?_)
      · have hf := (if_neg c3).symm.trans hf
        refine lv_iinc (v := (x4 + 1)) (lv' := [(4, .int (x4 + 1)), (0, .ref (A 0)), (1, .long x1), (3, .int x3)]) hx hb dX11_find_24 hl (k := 3) rfl rfl (by decide) rfl (fun ls hl => ?_)
        refine lv_goto (tgt := 3) hx hb dX11_find_27 (by decide) ?_
        exact ih _ _ _ _ _ _ _ hf (lv_sub hl [1, 2, 3, 0] rfl) hP hS
      · have hf := (if_pos c3).symm.trans hf
        refine lv_iload hx hb dX11_find_21 (lv_at hl 3 rfl) ?_
        exact cx_iret cx hP hS hf dX11_find_23
set_option maxHeartbeats 4000000 in
set_option maxRecDepth 100000 in
theorem ct_mX11_find (l : Launch) (D : va_G) (C : Nat → ClassId) (A adK adV : Nat → Nat) (hA : apA A 33) {x1 : Int64} {x3 : Int32} {σ : St} {res : (Int32 × St)} (hf : F_mX11_find x1 x3 σ = some res) : Met l yX11_find (Cond.code yX11_find cX11_find 5 (some .int) :: wsL_law) rm_X11_find (Pcx D C (wM A C) adK adV (fxA A 33) [.ref (A 0), .long x1, .int x3] σ) (Qcx D (wM A C) (fxA A 33) (some (.int res.1)) res.2) 0 0 (fxA A 33) := by
  refine Met.ofW (cc := cX11_find) (maxL := 5) (ret := (some .int)) (by decide) rfl ?_
  intro p e s m args below meth c s₁ B hml hv
  obtain ⟨rfl, hP, hK, hZ⟩ := hv
  have cx : Cxx D C adK adV (fxA A 33) p s m _ meth c cX11_find 5 RX11 (some .int) := ⟨B.exec, B.bytes, hml, findClass_of_methodNamed B.named, fun w h => atoms_spec (ws := Cond.code yX11_find cX11_find 5 (some .int) :: wsL_law) B.pre w (List.mem_cons_of_mem _ h), hK, B.returns, B.notSynchronized, hZ⟩
  obtain ⟨hx, hb, -, hown, hts, -, hr, hlk, -⟩ := id cx
  have hS : va_S (fxA A 33) s.heap s.heap [] := va_S.rf
  have hl := lv_entry ([.ref (A 0), .long x1, .int x3]) (n := 5) (Nat.le_of_ble_eq_true rfl)
  rw [lg_entry_eq]
  generalize (lg_sl ([.ref (A 0), .long x1, .int x3]) ++ List.replicate (5 - (lg_sl ([.ref (A 0), .long x1, .int x3])).length) Slot.unset).toArray = ls at hl ⊢
  have hl : lv_has ls 5 [(0, .ref (A 0)), (1, .long x1), (3, .int x3)] := hl
  show W p l e rm_X11_find s m _ below meth c s.heap [] 0 0 _ _
  refine lv_iconst (v := 0) hx hb dX11_find_0 (by decide) ?_
  refine lv_istore (lv' := [(4, .int 0), (0, .ref (A 0)), (1, .long x1), (3, .int x3)]) hx hb dX11_find_1 hl (by decide) rfl (fun ls hl => ?_)
  exact w_F_mX11_find_3 hA cx FU _ _ _ _ _ _ _ hf (lv_sub hl [1, 2, 3, 0] rfl) hP hS
set_option maxHeartbeats 4000000 in
set_option maxRecDepth 100000 in
theorem ct_mX11_readName (l : Launch) (D : va_G) (C : Nat → ClassId) (A adK adV : Nat → Nat) (hA : apA A 33)  {σ : St} {res : (Int32 × St)} (hf : F_mX11_readName σ = some res) : Met l yX11_readName (Cond.code yX11_readName cX11_readName 1 (some .int) :: wsL_law) rm_X11_readName (Pcx D C (wM A C) adK adV (fxA A 33) [.ref (A 0)] σ) (Qcx D (wM A C) (fxA A 33) (some (.int res.1)) res.2) 0 0 (fxA A 33) := by
  refine Met.ofW (cc := cX11_readName) (maxL := 1) (ret := (some .int)) (by decide) rfl ?_
  intro p e s m args below meth c s₁ B hml hv
  obtain ⟨rfl, hP, hK, hZ⟩ := hv
  have cx : Cxx D C adK adV (fxA A 33) p s m _ meth c cX11_readName 1 RX11 (some .int) := ⟨B.exec, B.bytes, hml, findClass_of_methodNamed B.named, fun w h => atoms_spec (ws := Cond.code yX11_readName cX11_readName 1 (some .int) :: wsL_law) B.pre w (List.mem_cons_of_mem _ h), hK, B.returns, B.notSynchronized, hZ⟩
  obtain ⟨hx, hb, -, hown, hts, -, hr, hlk, -⟩ := id cx
  have hS : va_S (fxA A 33) s.heap s.heap [] := va_S.rf
  have hl := lv_entry ([.ref (A 0)]) (n := 1) (Nat.le_of_ble_eq_true rfl)
  rw [lg_entry_eq]
  generalize (lg_sl ([.ref (A 0)]) ++ List.replicate (1 - (lg_sl ([.ref (A 0)])).length) Slot.unset).toArray = ls at hl ⊢
  have hl : lv_has ls 1 [(0, .ref (A 0))] := hl
  show W p l e rm_X11_readName s m _ below meth c s.heap [] 0 0 _ _
  refine lv_aload_n hx hb dX11_readName_0 rfl (lv_at hl 0 rfl) ?_
  refine gM_0_3 hx hb hts hown hK hP (v := (σ.1 2)) rfl (hts _ kw_430) dX11_readName_1 ?_
  refine lv_iconst (v := 1) hx hb dX11_readName_4 (by decide) ?_
  refine lv_icmp_eq (tgt := 16) hx hb dX11_readName_5 (by decide) (fun c1 => ?_) (fun c1 => ?_)
  · have hf := (if_pos c1).symm.trans hf
    refine lv_aload_n hx hb dX11_readName_16 rfl (lv_at hl 0 rfl) ?_
    refine gM_0_28 hx hb hts hown hK hP (hts _ kw_165) dX11_readName_17 ?_
    refine lv_aload_n hx hb dX11_readName_20 rfl (lv_at hl 0 rfl) ?_
    refine gM_0_20 hx hb hts hown hK hP (v := (σ.1 15)) rfl (hts _ kw_537) dX11_readName_21 ?_
    refine lv_aload_n hx hb dX11_readName_24 rfl (lv_at hl 0 rfl) ?_
    refine gM_0_9 hx hb hts hown hK hP (v := (σ.2.2.1 0)) rfl (hts _ kw_431) dX11_readName_25 ?_
    obtain ⟨z2, hf⟩ := gd_some hf
    refine pM_a12 hx hb hK hP hA hS (ib_in z2) dX11_readName_28 (fun H locs hP hS => ?_)
    refine lv_aload_n hx hb dX11_readName_29 rfl (lv_at hl 0 rfl) ?_
    refine gM_0_29 hx hb hts hown hK hP (hts _ kw_166) dX11_readName_30 ?_
    refine lv_aload_n hx hb dX11_readName_33 rfl (lv_at hl 0 rfl) ?_
    refine gM_0_20 hx hb hts hown hK hP (v := (σ.1 15)) rfl (hts _ kw_537) dX11_readName_34 ?_
    refine lv_aload_n hx hb dX11_readName_37 rfl (lv_at hl 0 rfl) ?_
    refine gM_0_4 hx hb hts hown hK hP (v := (σ.1 3)) rfl (hts _ kw_429) dX11_readName_38 ?_
    refine pM_a13 hx hb hK hP hA hS (ib_in z2) dX11_readName_41 (fun H locs hP hS => ?_)
    refine lv_aload_n hx hb dX11_readName_42 rfl (lv_at hl 0 rfl) ?_
    refine lv_dup hx hb dX11_readName_43 rfl ?_
    refine gM_0_20 hx hb hts hown hK hP (v := (σ.1 15)) rfl (hts _ kw_537) dX11_readName_44 ?_
    refine lv_iconst (v := 1) hx hb dX11_readName_47 (by decide) ?_
    refine lv_iadd hx hb dX11_readName_48 ?_
    refine pM_0_20 hx hb hts hown hK hP hA hS (hts _ kw_537) dX11_readName_49 (fun H locs hP hS => ?_)
    refine lv_aload_n hx hb dX11_readName_52 rfl (lv_at hl 0 rfl) ?_
    have hP : va_P D vwCl (wM A C (sB (sA (sI σ 15 ((σ.1 15) + 1)) 13 (upd (σ.2.1 13) (σ.1 15).toNatClampNeg (σ.1 3))) 12 (vp_updL (σ.2.2.2 12) (σ.1 15).toNatClampNeg (σ.2.2.1 0)))) H := hP
    obtain ⟨σ_r3, h_r3, hf⟩ := bv_some hf
    refine cx_V (As := []) (rest := []) cx (ct_mX11_scan l D C A adK adV hA h_r3) (cw_X11_166 hts ⟨Nat.le_of_ble_eq_true rfl, Nat.le_of_ble_eq_true rfl⟩) (va_recv hK hP (ci := 11) (q0 := 0) rfl (wM_0 A C _)) hP hS rfl hl.1 rfl (Nat.le_of_ble_eq_true rfl) dX11_readName_53 ⟨Nat.zero_le _, Nat.zero_le _⟩ (fun H locs hP hS => ?_)
    refine lv_aload_n hx hb dX11_readName_56 rfl (lv_at hl 0 rfl) ?_
    refine gM_0_20 hx hb hts hown hK hP (v := (σ_r3.1 15)) rfl (hts _ kw_537) dX11_readName_57 ?_
    refine lv_iconst (v := 1) hx hb dX11_readName_60 (by decide) ?_
    refine lv_isub hx hb dX11_readName_61 ?_
    exact cx_iret cx hP hS hf dX11_readName_62
  · have hf := (if_neg c1).symm.trans hf
    refine lv_aload_n hx hb dX11_readName_8 rfl (lv_at hl 0 rfl) ?_
    refine lv_iconst (v := 1) hx hb dX11_readName_9 (by decide) ?_
    obtain ⟨⟨r4, σ_r4⟩, h_r4, hf⟩ := bd_some hf
    refine cx_V (As := [.int 1]) (rest := []) cx (ct_mX11_fails l D C A adK adV hA h_r4) (cw_X11_172 hts ⟨Nat.le_of_ble_eq_true rfl, Nat.le_of_ble_eq_true rfl⟩) (va_recv hK hP (ci := 11) (q0 := 0) rfl (wM_0 A C _)) hP hS rfl hl.1 rfl (Nat.le_of_ble_eq_true rfl) dX11_readName_10 ⟨Nat.zero_le _, Nat.zero_le _⟩ (fun H locs hP hS => ?_)
    refine lv_pop hx hb dX11_readName_13 rfl ?_
    refine lv_iconst (v := (-1)) hx hb dX11_readName_14 (by decide) ?_
    exact cx_iret cx hP hS hf dX11_readName_15
set_option maxHeartbeats 4000000 in
set_option maxRecDepth 100000 in
theorem w_F_mX11_readLine_303 {p : Program} {l : Launch} {e : Env} {s : State} {m : MethodId} {args : Array Value} {below : List Frame} {meth : Method} {c : Code} {D : va_G} {C : Nat → ClassId} {A adK adV : Nat → Nat} (hA : apA A 33) (cx : Cxx D C adK adV (fxA A 33) p s m args meth c cX11_readLine 3 RX11 (some .boolean)) {res : (Int32 × St)} : ∀ (σ : St) (H : Heap) (locs : List Loc) (ls : Array Slot), F_mX11_readLine_303 σ = some res → lv_has ls 3 [(0, .ref (A 0))] → va_P D vwCl (wM A C σ) H → va_S (fxA A 33) s.heap H locs → W p l e rm_X11_readLine s m args below meth c H locs 0 0 (MQ below (Qcx D (wM A C) (fxA A 33) (some (.int res.1)) res.2) args s 0 0 (fxA A 33)) (F0 m 303 ls []) := by
  obtain ⟨hx, hb, hml, hown, hts, hK, hr, hlk, hZ⟩ := id cx
  intro σ H locs ls hf hl hP hS
  refine lv_aload_n hx hb dX11_readLine_303 rfl (lv_at hl 0 rfl) ?_
  refine lv_dup hx hb dX11_readLine_304 rfl ?_
  refine gM_0_19 hx hb hts hown hK hP (v := (σ.1 14)) rfl (hts _ kw_536) dX11_readLine_305 ?_
  refine lv_iconst (v := 1) hx hb dX11_readLine_308 (by decide) ?_
  refine lv_iadd hx hb dX11_readLine_309 ?_
  refine pM_0_19 hx hb hts hown hK hP hA hS (hts _ kw_536) dX11_readLine_310 (fun H locs hP hS => ?_)
  refine lv_aload_n hx hb dX11_readLine_313 rfl (lv_at hl 0 rfl) ?_
  refine lv_bipush (v := 59) hx hb dX11_readLine_314 (by decide) ?_
  have hP : va_P D vwCl (wM A C (sI σ 14 ((σ.1 14) + 1))) H := hP
  obtain ⟨⟨r1, σ_r1⟩, h_r1, hf⟩ := bd_some hf
  refine cx_V (As := [.int 59]) (rest := []) cx (ct_mX11_readSign l D C A adK adV hA h_r1) (cw_X11_188 hts ⟨Nat.le_of_ble_eq_true rfl, Nat.le_of_ble_eq_true rfl⟩) (va_recv hK hP (ci := 11) (q0 := 0) rfl (wM_0 A C _)) hP hS rfl hl.1 rfl (Nat.le_of_ble_eq_true rfl) dX11_readLine_316 ⟨Nat.zero_le _, Nat.zero_le _⟩ (fun H locs hP hS => ?_)
  obtain ⟨z2, hf⟩ := gd_some hf
  exact cx_zret cx (nb_ok z2) hP hS hf dX11_readLine_319
set_option maxHeartbeats 4000000 in
set_option maxRecDepth 100000 in
theorem w_F_mX11_readLine_179 {p : Program} {l : Launch} {e : Env} {s : State} {m : MethodId} {args : Array Value} {below : List Frame} {meth : Method} {c : Code} {D : va_G} {C : Nat → ClassId} {A adK adV : Nat → Nat} (hA : apA A 33) (cx : Cxx D C adK adV (fxA A 33) p s m args meth c cX11_readLine 3 RX11 (some .boolean)) {res : (Int32 × St)} : ∀ (x1 : Int32) (y1 : Int32) (y2 : Int32) (σ : St) (H : Heap) (locs : List Loc) (ls : Array Slot), F_mX11_readLine_179 x1 y1 y2 σ = some res → lv_has ls 3 [(0, .ref (A 0)), (1, .int x1)] → va_P D vwCl (wM A C σ) H → va_S (fxA A 33) s.heap H locs → W p l e rm_X11_readLine s m args below meth c H locs 0 0 (MQ below (Qcx D (wM A C) (fxA A 33) (some (.int res.1)) res.2) args s 0 0 (fxA A 33)) (F0 m 179 ls [.int y2, .int y1, .ref (A 9)]) := by
  obtain ⟨hx, hb, hml, hown, hts, hK, hr, hlk, hZ⟩ := id cx
  intro x1 y1 y2 σ H locs ls hf hl hP hS
  obtain ⟨z21, hf⟩ := gd_some hf
  refine pM_a9 hx hb hK hP hA hS (ib_in z21) dX11_readLine_179 (fun H locs hP hS => ?_)
  refine lv_aload_n hx hb dX11_readLine_180 rfl (lv_at hl 0 rfl) ?_
  have hP : va_P D vwCl (wM A C (sA σ 9 (upd (σ.2.1 9) y1.toNatClampNeg y2))) H := hP
  obtain ⟨σ_r22, h_r22, hf⟩ := bv_some hf
  refine cx_V (As := []) (rest := []) cx (ct_mX11_scan l D C A adK adV hA h_r22) (cw_X11_166 hts ⟨Nat.le_of_ble_eq_true rfl, Nat.le_of_ble_eq_true rfl⟩) (va_recv hK hP (ci := 11) (q0 := 0) rfl (wM_0 A C _)) hP hS rfl hl.1 rfl (Nat.le_of_ble_eq_true rfl) dX11_readLine_181 ⟨Nat.zero_le _, Nat.zero_le _⟩ (fun H locs hP hS => ?_)
  refine lv_aload_n hx hb dX11_readLine_184 rfl (lv_at hl 0 rfl) ?_
  refine gM_0_26 hx hb hts hown hK hP (hts _ kw_163) dX11_readLine_185 ?_
  refine lv_iload_n hx hb dX11_readLine_188 rfl (lv_at hl 1 rfl) ?_
  refine lv_bipush (v := (-2)) hx hb dX11_readLine_189 (by decide) ?_
  obtain ⟨z23, hf⟩ := gd_some hf
  refine pM_a10 hx hb hK hP hA hS (ib_in z23) dX11_readLine_191 (fun H locs hP hS => ?_)
  refine lv_goto (tgt := 303) hx hb dX11_readLine_192 (by decide) ?_
  have hP : va_P D vwCl (wM A C (sA σ_r22 10 (upd (σ_r22.2.1 10) x1.toNatClampNeg (-2)))) H := hP
  exact w_F_mX11_readLine_303 hA cx _ _ _ _ hf (lv_sub hl [0] rfl) hP hS
set_option maxHeartbeats 4000000 in
set_option maxRecDepth 100000 in
theorem w_F_mX11_readLine_144 {p : Program} {l : Launch} {e : Env} {s : State} {m : MethodId} {args : Array Value} {below : List Frame} {meth : Method} {c : Code} {D : va_G} {C : Nat → ClassId} {A adK adV : Nat → Nat} (hA : apA A 33) (cx : Cxx D C adK adV (fxA A 33) p s m args meth c cX11_readLine 3 RX11 (some .boolean)) {res : (Int32 × St)} : ∀ (x1 : Int32) (x2 : Int32) (σ : St) (H : Heap) (locs : List Loc) (ls : Array Slot), F_mX11_readLine_144 x1 x2 σ = some res → lv_has ls 3 [(0, .ref (A 0)), (1, .int x1), (2, .int x2)] → va_P D vwCl (wM A C σ) H → va_S (fxA A 33) s.heap H locs → W p l e rm_X11_readLine s m args below meth c H locs 0 0 (MQ below (Qcx D (wM A C) (fxA A 33) (some (.int res.1)) res.2) args s 0 0 (fxA A 33)) (F0 m 144 ls []) := by
  obtain ⟨hx, hb, hml, hown, hts, hK, hr, hlk, hZ⟩ := id cx
  intro x1 x2 σ H locs ls hf hl hP hS
  refine lv_aload_n hx hb dX11_readLine_144 rfl (lv_at hl 0 rfl) ?_
  refine gM_0_3 hx hb hts hown hK hP (v := (σ.1 2)) rfl (hts _ kw_430) dX11_readLine_145 ?_
  refine lv_iconst (v := 2) hx hb dX11_readLine_148 (by decide) ?_
  refine lv_icmp_eq (tgt := 158) hx hb dX11_readLine_149 (by decide) (fun c24 => ?_) (fun c24 => ?_)
  · have hf := (if_pos c24).symm.trans hf
    refine lv_aload_n hx hb dX11_readLine_158 rfl (lv_at hl 0 rfl) ?_
    refine gM_0_25 hx hb hts hown hK hP (hts _ kw_162) dX11_readLine_159 ?_
    refine lv_iload_n hx hb dX11_readLine_162 rfl (lv_at hl 1 rfl) ?_
    refine lv_iload_n hx hb dX11_readLine_163 rfl (lv_at hl 2 rfl) ?_
    refine lv_if_eq (tgt := 175) hx hb dX11_readLine_164 (by decide) (fun c25 => ?_) (fun c25 => ?_)
    · have hf := (if_pos c25).symm.trans hf
      refine lv_aload_n hx hb dX11_readLine_175 rfl (lv_at hl 0 rfl) ?_
      refine gM_0_6 hx hb hts hown hK hP (v := (σ.1 5)) rfl (hts _ kw_434) dX11_readLine_176 ?_
      exact w_F_mX11_readLine_179 hA cx _ _ _ _ _ _ _ hf (lv_sub hl [0, 1] rfl) hP hS
    · have hf := (if_neg c25).symm.trans hf
      refine lv_aload_n hx hb dX11_readLine_167 rfl (lv_at hl 0 rfl) ?_
      refine gM_0_6 hx hb hts hown hK hP (v := (σ.1 5)) rfl (hts _ kw_434) dX11_readLine_168 ?_
      refine lv_ineg hx hb dX11_readLine_171 ?_
      refine lv_goto (tgt := 179) hx hb dX11_readLine_172 (by decide) ?_
      exact w_F_mX11_readLine_179 hA cx _ _ _ _ _ _ _ hf (lv_sub hl [0, 1] rfl) hP hS
  · have hf := (if_neg c24).symm.trans hf
    refine lv_aload_n hx hb dX11_readLine_152 rfl (lv_at hl 0 rfl) ?_
    refine lv_iconst (v := 1) hx hb dX11_readLine_153 (by decide) ?_
    obtain ⟨⟨r26, σ_r26⟩, h_r26, hf⟩ := bd_some hf
    refine cx_V (As := [.int 1]) (rest := []) cx (ct_mX11_fails l D C A adK adV hA h_r26) (cw_X11_172 hts ⟨Nat.le_of_ble_eq_true rfl, Nat.le_of_ble_eq_true rfl⟩) (va_recv hK hP (ci := 11) (q0 := 0) rfl (wM_0 A C _)) hP hS rfl hl.1 rfl (Nat.le_of_ble_eq_true rfl) dX11_readLine_154 ⟨Nat.zero_le _, Nat.zero_le _⟩ (fun H locs hP hS => ?_)
    obtain ⟨z27, hf⟩ := gd_some hf
    exact cx_zret cx (nb_ok z27) hP hS hf dX11_readLine_157
set_option maxHeartbeats 4000000 in
set_option maxRecDepth 100000 in
theorem w_F_mX11_readLine_135 {p : Program} {l : Launch} {e : Env} {s : State} {m : MethodId} {args : Array Value} {below : List Frame} {meth : Method} {c : Code} {D : va_G} {C : Nat → ClassId} {A adK adV : Nat → Nat} (hA : apA A 33) (cx : Cxx D C adK adV (fxA A 33) p s m args meth c cX11_readLine 3 RX11 (some .boolean)) {res : (Int32 × St)} : ∀ (x1 : Int32) (y0 : Int32) (σ : St) (H : Heap) (locs : List Loc) (ls : Array Slot), F_mX11_readLine_135 x1 y0 σ = some res → lv_has ls 3 [(0, .ref (A 0)), (1, .int x1)] → va_P D vwCl (wM A C σ) H → va_S (fxA A 33) s.heap H locs → W p l e rm_X11_readLine s m args below meth c H locs 0 0 (MQ below (Qcx D (wM A C) (fxA A 33) (some (.int res.1)) res.2) args s 0 0 (fxA A 33)) (F0 m 135 ls [.int y0]) := by
  obtain ⟨hx, hb, hml, hown, hts, hK, hr, hlk, hZ⟩ := id cx
  intro x1 y0 σ H locs ls hf hl hP hS
  refine lv_istore_n (lv' := [(2, .int y0), (0, .ref (A 0)), (1, .int x1)]) hx hb dX11_readLine_135 rfl hl (by decide) rfl (fun ls hl => ?_)
  refine lv_iload_n hx hb dX11_readLine_136 rfl (lv_at hl 0 rfl) ?_
  refine lv_if_eq (tgt := 144) hx hb dX11_readLine_137 (by decide) (fun c28 => ?_) (fun c28 => ?_)
  · have hf := (if_pos c28).symm.trans hf
    exact w_F_mX11_readLine_144 hA cx _ _ _ _ _ _ hf (lv_sub hl [1, 2, 0] rfl) hP hS
  · have hf := (if_neg c28).symm.trans hf
    refine lv_aload_n hx hb dX11_readLine_140 rfl (lv_at hl 1 rfl) ?_
    obtain ⟨σ_r29, h_r29, hf⟩ := bv_some hf
    refine cx_V (As := []) (rest := []) cx (ct_mX11_scan l D C A adK adV hA h_r29) (cw_X11_166 hts ⟨Nat.le_of_ble_eq_true rfl, Nat.le_of_ble_eq_true rfl⟩) (va_recv hK hP (ci := 11) (q0 := 0) rfl (wM_0 A C _)) hP hS rfl hl.1 rfl (Nat.le_of_ble_eq_true rfl) dX11_readLine_141 ⟨Nat.zero_le _, Nat.zero_le _⟩ (fun H locs hP hS => ?_)
    exact w_F_mX11_readLine_144 hA cx _ _ _ _ _ _ hf (lv_sub hl [1, 2, 0] rfl) hP hS
set_option maxHeartbeats 4000000 in
set_option maxRecDepth 100000 in
theorem w_F_mX11_readLine_267 {p : Program} {l : Launch} {e : Env} {s : State} {m : MethodId} {args : Array Value} {below : List Frame} {meth : Method} {c : Code} {D : va_G} {C : Nat → ClassId} {A adK adV : Nat → Nat} (hA : apA A 33) (cx : Cxx D C adK adV (fxA A 33) p s m args meth c cX11_readLine 3 RX11 (some .boolean)) {res : (Int32 × St)} : ∀ (x1 : Int32) (σ : St) (H : Heap) (locs : List Loc) (ls : Array Slot), F_mX11_readLine_267 x1 σ = some res → lv_has ls 3 [(0, .ref (A 0)), (1, .int x1)] → va_P D vwCl (wM A C σ) H → va_S (fxA A 33) s.heap H locs → W p l e rm_X11_readLine s m args below meth c H locs 0 0 (MQ below (Qcx D (wM A C) (fxA A 33) (some (.int res.1)) res.2) args s 0 0 (fxA A 33)) (F0 m 267 ls []) := by
  obtain ⟨hx, hb, hml, hown, hts, hK, hr, hlk, hZ⟩ := id cx
  intro x1 σ H locs ls hf hl hP hS
  refine lv_aload_n hx hb dX11_readLine_267 rfl (lv_at hl 0 rfl) ?_
  refine va_ldcS hx hb hown (hZ.2.1 15 (by decide)) dX11_readLine_268 ?_
  obtain ⟨⟨r3, σ_r3⟩, h_r3, hf⟩ := bd_some hf
  refine cx_V (As := [.ref (adK 15)]) (rest := []) cx (ct_mX11_keyOf l D C A adK adV hA (by decide) h_r3) (cw_X11_177 hts ⟨Nat.le_of_ble_eq_true rfl, Nat.le_of_ble_eq_true rfl⟩) (va_recv hK hP (ci := 11) (q0 := 0) rfl (wM_0 A C _)) hP hS rfl hl.1 rfl (Nat.le_of_ble_eq_true rfl) dX11_readLine_270 ⟨Nat.zero_le _, Nat.zero_le _⟩ (fun H locs hP hS => ?_)
  refine lv_iconst (v := 4) hx hb dX11_readLine_273 (by decide) ?_
  refine lv_icmp_ne (tgt := 303) hx hb dX11_readLine_274 (by decide) (fun c4 => ?_) (fun c4 => ?_)
  · have hf := (if_neg c4).symm.trans hf
    exact w_F_mX11_readLine_303 hA cx _ _ _ _ hf (lv_sub hl [0] rfl) hP hS
  · have hf := (if_pos c4).symm.trans hf
    refine lv_aload_n hx hb dX11_readLine_277 rfl (lv_at hl 0 rfl) ?_
    obtain ⟨σ_r5, h_r5, hf⟩ := bv_some hf
    refine cx_V (As := []) (rest := []) cx (ct_mX11_scan l D C A adK adV hA h_r5) (cw_X11_166 hts ⟨Nat.le_of_ble_eq_true rfl, Nat.le_of_ble_eq_true rfl⟩) (va_recv hK hP (ci := 11) (q0 := 0) rfl (wM_0 A C _)) hP hS rfl hl.1 rfl (Nat.le_of_ble_eq_true rfl) dX11_readLine_278 ⟨Nat.zero_le _, Nat.zero_le _⟩ (fun H locs hP hS => ?_)
    refine lv_aload_n hx hb dX11_readLine_281 rfl (lv_at hl 0 rfl) ?_
    refine gM_0_27 hx hb hts hown hK hP (hts _ kw_164) dX11_readLine_282 ?_
    refine lv_iload_n hx hb dX11_readLine_285 rfl (lv_at hl 1 rfl) ?_
    refine lv_aload_n hx hb dX11_readLine_286 rfl (lv_at hl 0 rfl) ?_
    obtain ⟨⟨r6, σ_r6⟩, h_r6, hf⟩ := bd_some hf
    refine cx_V (As := []) (rest := [.int x1, .ref (A 11)]) cx (ct_mX11_readName l D C A adK adV hA h_r6) (cw_X11_232 hts ⟨Nat.le_of_ble_eq_true rfl, Nat.le_of_ble_eq_true rfl⟩) (va_recv hK hP (ci := 11) (q0 := 0) rfl (wM_0 A C _)) hP hS rfl hl.1 rfl (Nat.le_of_ble_eq_true rfl) dX11_readLine_287 ⟨Nat.zero_le _, Nat.zero_le _⟩ (fun H locs hP hS => ?_)
    obtain ⟨z7, hf⟩ := gd_some hf
    refine pM_a11 hx hb hK hP hA hS (ib_in z7) dX11_readLine_290 (fun H locs hP hS => ?_)
    refine lv_aload_n hx hb dX11_readLine_291 rfl (lv_at hl 0 rfl) ?_
    refine gM_0_27 hx hb hts hown hK hP (hts _ kw_164) dX11_readLine_292 ?_
    refine lv_iload_n hx hb dX11_readLine_295 rfl (lv_at hl 1 rfl) ?_
    refine gM_a11 hx hb hK hP (ib_in z7) (v := ((upd (σ_r6.2.1 11) x1.toNatClampNeg r6) x1.toNatClampNeg)) rfl dX11_readLine_296 ?_
    refine lv_iconst (v := (-1)) hx hb dX11_readLine_297 (by decide) ?_
    refine lv_icmp_ne (tgt := 303) hx hb dX11_readLine_298 (by decide) (fun c8 => ?_) (fun c8 => ?_)
    · have hf := (if_neg c8).symm.trans hf
      have hP : va_P D vwCl (wM A C (sA σ_r6 11 (upd (σ_r6.2.1 11) x1.toNatClampNeg r6))) H := hP
      exact w_F_mX11_readLine_303 hA cx _ _ _ _ hf (lv_sub hl [0] rfl) hP hS
    · have hf := (if_pos c8).symm.trans hf
      refine lv_iconst (v := 0) hx hb dX11_readLine_301 (by decide) ?_
      have hP : va_P D vwCl (wM A C (sA σ_r6 11 (upd (σ_r6.2.1 11) x1.toNatClampNeg r6))) H := hP
      exact cx_zret cx rfl hP hS hf dX11_readLine_302
set_option maxHeartbeats 4000000 in
set_option maxRecDepth 100000 in
theorem w_F_mX11_readLine_195 {p : Program} {l : Launch} {e : Env} {s : State} {m : MethodId} {args : Array Value} {below : List Frame} {meth : Method} {c : Code} {D : va_G} {C : Nat → ClassId} {A adK adV : Nat → Nat} (hA : apA A 33) (cx : Cxx D C adK adV (fxA A 33) p s m args meth c cX11_readLine 3 RX11 (some .boolean)) {res : (Int32 × St)} : ∀ (x1 : Int32) (σ : St) (H : Heap) (locs : List Loc) (ls : Array Slot), F_mX11_readLine_195 x1 σ = some res → lv_has ls 3 [(0, .ref (A 0)), (1, .int x1)] → va_P D vwCl (wM A C σ) H → va_S (fxA A 33) s.heap H locs → W p l e rm_X11_readLine s m args below meth c H locs 0 0 (MQ below (Qcx D (wM A C) (fxA A 33) (some (.int res.1)) res.2) args s 0 0 (fxA A 33)) (F0 m 195 ls []) := by
  obtain ⟨hx, hb, hml, hown, hts, hK, hr, hlk, hZ⟩ := id cx
  intro x1 σ H locs ls hf hl hP hS
  refine lv_aload_n hx hb dX11_readLine_195 rfl (lv_at hl 0 rfl) ?_
  refine lv_bipush (v := 58) hx hb dX11_readLine_196 (by decide) ?_
  obtain ⟨⟨r9, σ_r9⟩, h_r9, hf⟩ := bd_some hf
  refine cx_V (As := [.int 58]) (rest := []) cx (ct_mX11_readSign l D C A adK adV hA h_r9) (cw_X11_188 hts ⟨Nat.le_of_ble_eq_true rfl, Nat.le_of_ble_eq_true rfl⟩) (va_recv hK hP (ci := 11) (q0 := 0) rfl (wM_0 A C _)) hP hS rfl hl.1 rfl (Nat.le_of_ble_eq_true rfl) dX11_readLine_198 ⟨Nat.zero_le _, Nat.zero_le _⟩ (fun H locs hP hS => ?_)
  refine lv_if_ne (tgt := 206) hx hb dX11_readLine_201 (by decide) (fun c10 => ?_) (fun c10 => ?_)
  · have hf := (if_neg c10).symm.trans hf
    refine lv_aload_n hx hb dX11_readLine_206 rfl (lv_at hl 0 rfl) ?_
    refine va_ldcS hx hb hown (hZ.2.1 16 (by decide)) dX11_readLine_207 ?_
    obtain ⟨⟨r11, σ_r11⟩, h_r11, hf⟩ := bd_some hf
    refine cx_V (As := [.ref (adK 16)]) (rest := []) cx (ct_mX11_keyOf l D C A adK adV hA (by decide) h_r11) (cw_X11_177 hts ⟨Nat.le_of_ble_eq_true rfl, Nat.le_of_ble_eq_true rfl⟩) (va_recv hK hP (ci := 11) (q0 := 0) rfl (wM_0 A C _)) hP hS rfl hl.1 rfl (Nat.le_of_ble_eq_true rfl) dX11_readLine_209 ⟨Nat.zero_le _, Nat.zero_le _⟩ (fun H locs hP hS => ?_)
    refine lv_istore_n (lv' := [(2, .int r11), (0, .ref (A 0)), (1, .int x1)]) hx hb dX11_readLine_212 rfl hl (by decide) rfl (fun ls hl => ?_)
    refine lv_iload_n hx hb dX11_readLine_213 rfl (lv_at hl 0 rfl) ?_
    refine lv_iconst (v := (-1)) hx hb dX11_readLine_214 (by decide) ?_
    refine lv_icmp_ne (tgt := 224) hx hb dX11_readLine_215 (by decide) (fun c12 => ?_) (fun c12 => ?_)
    · have hf := (if_neg c12).symm.trans hf
      refine lv_aload_n hx hb dX11_readLine_224 rfl (lv_at hl 1 rfl) ?_
      refine gM_0_25 hx hb hts hown hK hP (hts _ kw_162) dX11_readLine_225 ?_
      refine lv_iload_n hx hb dX11_readLine_228 rfl (lv_at hl 2 rfl) ?_
      refine lv_iload_n hx hb dX11_readLine_229 rfl (lv_at hl 0 rfl) ?_
      obtain ⟨z13, hf⟩ := gd_some hf
      refine pM_a9 hx hb hK hP hA hS (ib_in z13) dX11_readLine_230 (fun H locs hP hS => ?_)
      refine lv_aload_n hx hb dX11_readLine_231 rfl (lv_at hl 1 rfl) ?_
      have hP : va_P D vwCl (wM A C (sA σ_r11 9 (upd (σ_r11.2.1 9) x1.toNatClampNeg r11))) H := hP
      obtain ⟨σ_r14, h_r14, hf⟩ := bv_some hf
      refine cx_V (As := []) (rest := []) cx (ct_mX11_scan l D C A adK adV hA h_r14) (cw_X11_166 hts ⟨Nat.le_of_ble_eq_true rfl, Nat.le_of_ble_eq_true rfl⟩) (va_recv hK hP (ci := 11) (q0 := 0) rfl (wM_0 A C _)) hP hS rfl hl.1 rfl (Nat.le_of_ble_eq_true rfl) dX11_readLine_232 ⟨Nat.zero_le _, Nat.zero_le _⟩ (fun H locs hP hS => ?_)
      refine lv_iload_n hx hb dX11_readLine_235 rfl (lv_at hl 0 rfl) ?_
      refine lv_iconst (v := 1) hx hb dX11_readLine_236 (by decide) ?_
      refine lv_bipush (v := 7) hx hb dX11_readLine_237 (by decide) ?_
      obtain ⟨⟨r15, σ_r15⟩, h_r15, hf⟩ := bd_some hf
      refine cx_S (As := [.int r11, .int 1, .int 7]) (rest := []) cx (ct_mX11_in l D C A adK adV hA h_r15) (cw_X11_181 hts ⟨Nat.le_of_ble_eq_true rfl, Nat.le_of_ble_eq_true rfl⟩) hP hS rfl hl.1 rfl (Nat.le_of_ble_eq_true rfl) dX11_readLine_239 ⟨Nat.zero_le _, Nat.zero_le _⟩ (fun H locs hP hS => ?_)
      refine lv_if_eq (tgt := 267) hx hb dX11_readLine_242 (by decide) (fun c16 => ?_) (fun c16 => ?_)
      · have hf := (if_pos c16).symm.trans hf
        exact w_F_mX11_readLine_267 hA cx _ _ _ _ _ hf (lv_sub hl [1, 2] rfl) hP hS
      · have hf := (if_neg c16).symm.trans hf
        refine lv_aload_n hx hb dX11_readLine_245 rfl (lv_at hl 1 rfl) ?_
        refine gM_0_26 hx hb hts hown hK hP (hts _ kw_163) dX11_readLine_246 ?_
        refine lv_iload_n hx hb dX11_readLine_249 rfl (lv_at hl 2 rfl) ?_
        refine lv_aload_n hx hb dX11_readLine_250 rfl (lv_at hl 1 rfl) ?_
        obtain ⟨⟨r17, σ_r17⟩, h_r17, hf⟩ := bd_some hf
        refine cx_V (As := []) (rest := [.int x1, .ref (A 10)]) cx (ct_mX11_readName l D C A adK adV hA h_r17) (cw_X11_232 hts ⟨Nat.le_of_ble_eq_true rfl, Nat.le_of_ble_eq_true rfl⟩) (va_recv hK hP (ci := 11) (q0 := 0) rfl (wM_0 A C _)) hP hS rfl hl.1 rfl (Nat.le_of_ble_eq_true rfl) dX11_readLine_251 ⟨Nat.zero_le _, Nat.zero_le _⟩ (fun H locs hP hS => ?_)
        refine pM_a10 hx hb hK hP hA hS (ib_in z13) dX11_readLine_254 (fun H locs hP hS => ?_)
        refine lv_aload_n hx hb dX11_readLine_255 rfl (lv_at hl 1 rfl) ?_
        refine gM_0_26 hx hb hts hown hK hP (hts _ kw_163) dX11_readLine_256 ?_
        refine lv_iload_n hx hb dX11_readLine_259 rfl (lv_at hl 2 rfl) ?_
        refine gM_a10 hx hb hK hP (ib_in z13) (v := ((upd (σ_r17.2.1 10) x1.toNatClampNeg r17) x1.toNatClampNeg)) rfl dX11_readLine_260 ?_
        refine lv_iconst (v := (-1)) hx hb dX11_readLine_261 (by decide) ?_
        refine lv_icmp_ne (tgt := 267) hx hb dX11_readLine_262 (by decide) (fun c18 => ?_) (fun c18 => ?_)
        · have hf := (if_neg c18).symm.trans hf
          have hP : va_P D vwCl (wM A C (sA σ_r17 10 (upd (σ_r17.2.1 10) x1.toNatClampNeg r17))) H := hP
          exact w_F_mX11_readLine_267 hA cx _ _ _ _ _ hf (lv_sub hl [1, 2] rfl) hP hS
        · have hf := (if_pos c18).symm.trans hf
          refine lv_iconst (v := 0) hx hb dX11_readLine_265 (by decide) ?_
          have hP : va_P D vwCl (wM A C (sA σ_r17 10 (upd (σ_r17.2.1 10) x1.toNatClampNeg r17))) H := hP
          exact cx_zret cx rfl hP hS hf dX11_readLine_266
    · have hf := (if_pos c12).symm.trans hf
      refine lv_aload_n hx hb dX11_readLine_218 rfl (lv_at hl 1 rfl) ?_
      refine lv_iconst (v := 1) hx hb dX11_readLine_219 (by decide) ?_
      obtain ⟨⟨r19, σ_r19⟩, h_r19, hf⟩ := bd_some hf
      refine cx_V (As := [.int 1]) (rest := []) cx (ct_mX11_fails l D C A adK adV hA h_r19) (cw_X11_172 hts ⟨Nat.le_of_ble_eq_true rfl, Nat.le_of_ble_eq_true rfl⟩) (va_recv hK hP (ci := 11) (q0 := 0) rfl (wM_0 A C _)) hP hS rfl hl.1 rfl (Nat.le_of_ble_eq_true rfl) dX11_readLine_220 ⟨Nat.zero_le _, Nat.zero_le _⟩ (fun H locs hP hS => ?_)
      obtain ⟨z20, hf⟩ := gd_some hf
      exact cx_zret cx (nb_ok z20) hP hS hf dX11_readLine_223
  · have hf := (if_pos c10).symm.trans hf
    refine lv_iconst (v := 0) hx hb dX11_readLine_204 (by decide) ?_
    exact cx_zret cx rfl hP hS hf dX11_readLine_205
set_option maxHeartbeats 4000000 in
set_option maxRecDepth 100000 in
theorem ct_mX11_readLine (l : Launch) (D : va_G) (C : Nat → ClassId) (A adK adV : Nat → Nat) (hA : apA A 33)  {σ : St} {res : (Int32 × St)} (hf : F_mX11_readLine σ = some res) : Met l yX11_readLine (Cond.code yX11_readLine cX11_readLine 3 (some .boolean) :: wsL_law) rm_X11_readLine (Pcx D C (wM A C) adK adV (fxA A 33) [.ref (A 0)] σ) (Qcx D (wM A C) (fxA A 33) (some (.int res.1)) res.2) 0 0 (fxA A 33) := by
  refine Met.ofW (cc := cX11_readLine) (maxL := 3) (ret := (some .boolean)) (by decide) rfl ?_
  intro p e s m args below meth c s₁ B hml hv
  obtain ⟨rfl, hP, hK, hZ⟩ := hv
  have cx : Cxx D C adK adV (fxA A 33) p s m _ meth c cX11_readLine 3 RX11 (some .boolean) := ⟨B.exec, B.bytes, hml, findClass_of_methodNamed B.named, fun w h => atoms_spec (ws := Cond.code yX11_readLine cX11_readLine 3 (some .boolean) :: wsL_law) B.pre w (List.mem_cons_of_mem _ h), hK, B.returns, B.notSynchronized, hZ⟩
  obtain ⟨hx, hb, -, hown, hts, -, hr, hlk, -⟩ := id cx
  have hS : va_S (fxA A 33) s.heap s.heap [] := va_S.rf
  have hl := lv_entry ([.ref (A 0)]) (n := 3) (Nat.le_of_ble_eq_true rfl)
  rw [lg_entry_eq]
  generalize (lg_sl ([.ref (A 0)]) ++ List.replicate (3 - (lg_sl ([.ref (A 0)])).length) Slot.unset).toArray = ls at hl ⊢
  have hl : lv_has ls 3 [(0, .ref (A 0))] := hl
  show W p l e rm_X11_readLine s m _ below meth c s.heap [] 0 0 _ _
  refine lv_aload_n hx hb dX11_readLine_0 rfl (lv_at hl 0 rfl) ?_
  refine gM_0_3 hx hb hts hown hK hP (v := (σ.1 2)) rfl (hts _ kw_430) dX11_readLine_1 ?_
  refine lv_iconst (v := 1) hx hb dX11_readLine_4 (by decide) ?_
  refine lv_icmp_eq (tgt := 14) hx hb dX11_readLine_5 (by decide) (fun c30 => ?_) (fun c30 => ?_)
  · have hf := (if_pos c30).symm.trans hf
    refine lv_aload_n hx hb dX11_readLine_14 rfl (lv_at hl 0 rfl) ?_
    refine lv_aload_n hx hb dX11_readLine_15 rfl (lv_at hl 0 rfl) ?_
    refine gM_0_9 hx hb hts hown hK hP (v := (σ.2.2.1 0)) rfl (hts _ kw_431) dX11_readLine_16 ?_
    refine lv_aload_n hx hb dX11_readLine_19 rfl (lv_at hl 0 rfl) ?_
    refine gM_0_19 hx hb hts hown hK hP (v := (σ.1 14)) rfl (hts _ kw_536) dX11_readLine_20 ?_
    obtain ⟨⟨r31, σ_r31⟩, h_r31, hf⟩ := bd_some hf
    refine cx_V (As := [.long (σ.2.2.1 0), .int (σ.1 14)]) (rest := []) cx (ct_mX11_find l D C A adK adV hA h_r31) (cw_X11_226 hts ⟨Nat.le_of_ble_eq_true rfl, Nat.le_of_ble_eq_true rfl⟩) (va_recv hK hP (ci := 11) (q0 := 0) rfl (wM_0 A C _)) hP hS rfl hl.1 rfl (Nat.le_of_ble_eq_true rfl) dX11_readLine_23 ⟨Nat.zero_le _, Nat.zero_le _⟩ (fun H locs hP hS => ?_)
    refine lv_iconst (v := (-1)) hx hb dX11_readLine_26 (by decide) ?_
    refine lv_icmp_eq (tgt := 36) hx hb dX11_readLine_27 (by decide) (fun c32 => ?_) (fun c32 => ?_)
    · have hf := (if_pos c32).symm.trans hf
      refine lv_aload_n hx hb dX11_readLine_36 rfl (lv_at hl 0 rfl) ?_
      refine gM_0_19 hx hb hts hown hK hP (v := (σ_r31.1 14)) rfl (hts _ kw_536) dX11_readLine_37 ?_
      refine lv_bipush (v := 40) hx hb dX11_readLine_40 (by decide) ?_
      refine lv_icmp_ne (tgt := 51) hx hb dX11_readLine_42 (by decide) (fun c33 => ?_) (fun c33 => ?_)
      · have hf := (if_neg c33).symm.trans hf
        refine lv_aload_n hx hb dX11_readLine_51 rfl (lv_at hl 0 rfl) ?_
        refine gM_0_19 hx hb hts hown hK hP (v := (σ_r31.1 14)) rfl (hts _ kw_536) dX11_readLine_52 ?_
        refine lv_istore_n (lv' := [(1, .int (σ_r31.1 14)), (0, .ref (A 0))]) hx hb dX11_readLine_55 rfl hl (by decide) rfl (fun ls hl => ?_)
        refine lv_aload_n hx hb dX11_readLine_56 rfl (lv_at hl 1 rfl) ?_
        refine gM_0_24 hx hb hts hown hK hP (hts _ kw_161) dX11_readLine_57 ?_
        refine lv_iload_n hx hb dX11_readLine_60 rfl (lv_at hl 0 rfl) ?_
        refine lv_aload_n hx hb dX11_readLine_61 rfl (lv_at hl 1 rfl) ?_
        refine gM_0_9 hx hb hts hown hK hP (v := (σ_r31.2.2.1 0)) rfl (hts _ kw_431) dX11_readLine_62 ?_
        obtain ⟨z34, hf⟩ := gd_some hf
        refine pM_a8 hx hb hK hP hA hS (ib_in z34) dX11_readLine_65 (fun H locs hP hS => ?_)
        refine lv_aload_n hx hb dX11_readLine_66 rfl (lv_at hl 1 rfl) ?_
        refine gM_0_26 hx hb hts hown hK hP (hts _ kw_163) dX11_readLine_67 ?_
        refine lv_iload_n hx hb dX11_readLine_70 rfl (lv_at hl 0 rfl) ?_
        refine lv_iconst (v := (-1)) hx hb dX11_readLine_71 (by decide) ?_
        refine pM_a10 hx hb hK hP hA hS (ib_in z34) dX11_readLine_72 (fun H locs hP hS => ?_)
        refine lv_aload_n hx hb dX11_readLine_73 rfl (lv_at hl 1 rfl) ?_
        refine gM_0_27 hx hb hts hown hK hP (hts _ kw_164) dX11_readLine_74 ?_
        refine lv_iload_n hx hb dX11_readLine_77 rfl (lv_at hl 0 rfl) ?_
        refine lv_iconst (v := (-1)) hx hb dX11_readLine_78 (by decide) ?_
        refine pM_a11 hx hb hK hP hA hS (ib_in z34) dX11_readLine_79 (fun H locs hP hS => ?_)
        refine lv_aload_n hx hb dX11_readLine_80 rfl (lv_at hl 1 rfl) ?_
        have hP : va_P D vwCl (wM A C (sB (sA (sA σ_r31 10 (upd (σ_r31.2.1 10) (σ_r31.1 14).toNatClampNeg (-1))) 11 (upd (σ_r31.2.1 11) (σ_r31.1 14).toNatClampNeg (-1))) 8 (vp_updL (σ_r31.2.2.2 8) (σ_r31.1 14).toNatClampNeg (σ_r31.2.2.1 0)))) H := hP
        obtain ⟨σ_r35, h_r35, hf⟩ := bv_some hf
        refine cx_V (As := []) (rest := []) cx (ct_mX11_scan l D C A adK adV hA h_r35) (cw_X11_166 hts ⟨Nat.le_of_ble_eq_true rfl, Nat.le_of_ble_eq_true rfl⟩) (va_recv hK hP (ci := 11) (q0 := 0) rfl (wM_0 A C _)) hP hS rfl hl.1 rfl (Nat.le_of_ble_eq_true rfl) dX11_readLine_81 ⟨Nat.zero_le _, Nat.zero_le _⟩ (fun H locs hP hS => ?_)
        refine lv_aload_n hx hb dX11_readLine_84 rfl (lv_at hl 1 rfl) ?_
        refine gM_0_3 hx hb hts hown hK hP (v := (σ_r35.1 2)) rfl (hts _ kw_430) dX11_readLine_85 ?_
        refine lv_iconst (v := 3) hx hb dX11_readLine_88 (by decide) ?_
        refine lv_icmp_ne (tgt := 195) hx hb dX11_readLine_89 (by decide) (fun c36 => ?_) (fun c36 => ?_)
        · have hf := (if_neg c36).symm.trans hf
          exact w_F_mX11_readLine_195 hA cx _ _ _ _ _ hf (lv_sub hl [1, 0] rfl) hP hS
        · have hf := (if_pos c36).symm.trans hf
          refine lv_aload_n hx hb dX11_readLine_92 rfl (lv_at hl 1 rfl) ?_
          refine lv_aload_n hx hb dX11_readLine_93 rfl (lv_at hl 1 rfl) ?_
          refine gM_0_4 hx hb hts hown hK hP (v := (σ_r35.1 3)) rfl (hts _ kw_429) dX11_readLine_94 ?_
          obtain ⟨⟨r37, σ_r37⟩, h_r37, hf⟩ := bd_some hf
          refine cx_V (As := [.int (σ_r35.1 3)]) (rest := []) cx (ct_mX11_see l D C A adK adV hA h_r37) (cw_X11_144 hts ⟨Nat.le_of_ble_eq_true rfl, Nat.le_of_ble_eq_true rfl⟩) (va_recv hK hP (ci := 11) (q0 := 0) rfl (wM_0 A C _)) hP hS rfl hl.1 rfl (Nat.le_of_ble_eq_true rfl) dX11_readLine_97 ⟨Nat.zero_le _, Nat.zero_le _⟩ (fun H locs hP hS => ?_)
          refine lv_bipush (v := 61) hx hb dX11_readLine_100 (by decide) ?_
          refine lv_icmp_ne (tgt := 195) hx hb dX11_readLine_102 (by decide) (fun c38 => ?_) (fun c38 => ?_)
          · have hf := (if_neg c38).symm.trans hf
            exact w_F_mX11_readLine_195 hA cx _ _ _ _ _ hf (lv_sub hl [1, 0] rfl) hP hS
          · have hf := (if_pos c38).symm.trans hf
            refine lv_aload_n hx hb dX11_readLine_105 rfl (lv_at hl 1 rfl) ?_
            obtain ⟨σ_r39, h_r39, hf⟩ := bv_some hf
            refine cx_V (As := []) (rest := []) cx (ct_mX11_scan l D C A adK adV hA h_r39) (cw_X11_166 hts ⟨Nat.le_of_ble_eq_true rfl, Nat.le_of_ble_eq_true rfl⟩) (va_recv hK hP (ci := 11) (q0 := 0) rfl (wM_0 A C _)) hP hS rfl hl.1 rfl (Nat.le_of_ble_eq_true rfl) dX11_readLine_106 ⟨Nat.zero_le _, Nat.zero_le _⟩ (fun H locs hP hS => ?_)
            refine lv_aload_n hx hb dX11_readLine_109 rfl (lv_at hl 1 rfl) ?_
            refine gM_0_3 hx hb hts hown hK hP (v := (σ_r39.1 2)) rfl (hts _ kw_430) dX11_readLine_110 ?_
            refine lv_iconst (v := 3) hx hb dX11_readLine_113 (by decide) ?_
            refine lv_icmp_ne (tgt := 134) hx hb dX11_readLine_114 (by decide) (fun c40 => ?_) (fun c40 => ?_)
            · have hf := (if_neg c40).symm.trans hf
              refine lv_iconst (v := 0) hx hb dX11_readLine_134 (by decide) ?_
              exact w_F_mX11_readLine_135 hA cx _ _ _ _ _ _ hf (lv_sub hl [1, 0] rfl) hP hS
            · have hf := (if_pos c40).symm.trans hf
              refine lv_aload_n hx hb dX11_readLine_117 rfl (lv_at hl 1 rfl) ?_
              refine lv_aload_n hx hb dX11_readLine_118 rfl (lv_at hl 1 rfl) ?_
              refine gM_0_4 hx hb hts hown hK hP (v := (σ_r39.1 3)) rfl (hts _ kw_429) dX11_readLine_119 ?_
              obtain ⟨⟨r41, σ_r41⟩, h_r41, hf⟩ := bd_some hf
              refine cx_V (As := [.int (σ_r39.1 3)]) (rest := []) cx (ct_mX11_see l D C A adK adV hA h_r41) (cw_X11_144 hts ⟨Nat.le_of_ble_eq_true rfl, Nat.le_of_ble_eq_true rfl⟩) (va_recv hK hP (ci := 11) (q0 := 0) rfl (wM_0 A C _)) hP hS rfl hl.1 rfl (Nat.le_of_ble_eq_true rfl) dX11_readLine_122 ⟨Nat.zero_le _, Nat.zero_le _⟩ (fun H locs hP hS => ?_)
              refine lv_bipush (v := 45) hx hb dX11_readLine_125 (by decide) ?_
              refine lv_icmp_ne (tgt := 134) hx hb dX11_readLine_127 (by decide) (fun c42 => ?_) (fun c42 => ?_)
              · have hf := (if_neg c42).symm.trans hf
                refine lv_iconst (v := 0) hx hb dX11_readLine_134 (by decide) ?_
                exact w_F_mX11_readLine_135 hA cx _ _ _ _ _ _ hf (lv_sub hl [1, 0] rfl) hP hS
              · have hf := (if_pos c42).symm.trans hf
                refine lv_iconst (v := 1) hx hb dX11_readLine_130 (by decide) ?_
                refine lv_goto (tgt := 135) hx hb dX11_readLine_131 (by decide) ?_
                exact w_F_mX11_readLine_135 hA cx _ _ _ _ _ _ hf (lv_sub hl [1, 0] rfl) hP hS
      · have hf := (if_pos c33).symm.trans hf
        refine lv_aload_n hx hb dX11_readLine_45 rfl (lv_at hl 0 rfl) ?_
        refine lv_iconst (v := 4) hx hb dX11_readLine_46 (by decide) ?_
        obtain ⟨⟨r43, σ_r43⟩, h_r43, hf⟩ := bd_some hf
        refine cx_V (As := [.int 4]) (rest := []) cx (ct_mX11_fails l D C A adK adV hA h_r43) (cw_X11_172 hts ⟨Nat.le_of_ble_eq_true rfl, Nat.le_of_ble_eq_true rfl⟩) (va_recv hK hP (ci := 11) (q0 := 0) rfl (wM_0 A C _)) hP hS rfl hl.1 rfl (Nat.le_of_ble_eq_true rfl) dX11_readLine_47 ⟨Nat.zero_le _, Nat.zero_le _⟩ (fun H locs hP hS => ?_)
        obtain ⟨z44, hf⟩ := gd_some hf
        exact cx_zret cx (nb_ok z44) hP hS hf dX11_readLine_50
    · have hf := (if_neg c32).symm.trans hf
      refine lv_aload_n hx hb dX11_readLine_30 rfl (lv_at hl 0 rfl) ?_
      refine lv_iconst (v := 3) hx hb dX11_readLine_31 (by decide) ?_
      obtain ⟨⟨r45, σ_r45⟩, h_r45, hf⟩ := bd_some hf
      refine cx_V (As := [.int 3]) (rest := []) cx (ct_mX11_fails l D C A adK adV hA h_r45) (cw_X11_172 hts ⟨Nat.le_of_ble_eq_true rfl, Nat.le_of_ble_eq_true rfl⟩) (va_recv hK hP (ci := 11) (q0 := 0) rfl (wM_0 A C _)) hP hS rfl hl.1 rfl (Nat.le_of_ble_eq_true rfl) dX11_readLine_32 ⟨Nat.zero_le _, Nat.zero_le _⟩ (fun H locs hP hS => ?_)
      obtain ⟨z46, hf⟩ := gd_some hf
      exact cx_zret cx (nb_ok z46) hP hS hf dX11_readLine_35
  · have hf := (if_neg c30).symm.trans hf
    refine lv_aload_n hx hb dX11_readLine_8 rfl (lv_at hl 0 rfl) ?_
    refine lv_iconst (v := 1) hx hb dX11_readLine_9 (by decide) ?_
    obtain ⟨⟨r47, σ_r47⟩, h_r47, hf⟩ := bd_some hf
    refine cx_V (As := [.int 1]) (rest := []) cx (ct_mX11_fails l D C A adK adV hA h_r47) (cw_X11_172 hts ⟨Nat.le_of_ble_eq_true rfl, Nat.le_of_ble_eq_true rfl⟩) (va_recv hK hP (ci := 11) (q0 := 0) rfl (wM_0 A C _)) hP hS rfl hl.1 rfl (Nat.le_of_ble_eq_true rfl) dX11_readLine_10 ⟨Nat.zero_le _, Nat.zero_le _⟩ (fun H locs hP hS => ?_)
    obtain ⟨z48, hf⟩ := gd_some hf
    exact cx_zret cx (nb_ok z48) hP hS hf dX11_readLine_13
