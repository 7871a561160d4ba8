/-! constructors -/
abbrev rk_X9 : Room := { frames := 1, cells := 1, slots := 1200, locals := 12 }
set_option maxHeartbeats 4000000 in
set_option maxRecDepth 100000 in
theorem kc_X9 (l : Launch) (D : va_G) (C : Nat → ClassId) (h0  : Nat) (sz : Nat) : Met l yX9_init (Cond.code yX9_init cX9_init 1 none :: wsL_law) rk_X9 (va_Pc [.ref h0] (fun U => U.heap.size = sz ∧ va_P D vwCl [(h0, .inr (9, [.null, .int 0, .int 0, .int 0, .int 0, .int 0, .int 0, .int 0]))] U.heap ∧ va_K D vwCl (tyL C) U ∧ NX U)) (va_Qv (fun _ : Unit => True) (fun _ t => ∃ (q8 : Nat), va_P D vwCl [(h0, .inr (9, [.ref q8, .int 0, .int 0, .int 0, .int 0, .int 0, .int 0, .int (-1)])), (q8, .inl (C 0, 1200, .inl (fun _ => 0)))] t.heap ∧ va_D (va_A [(h0, .inr (9, [.null, .int 0, .int 0, .int 0, .int 0, .int 0, .int 0, .int 0]))] sz) [(h0, .inr (9, [.ref q8, .int 0, .int 0, .int 0, .int 0, .int 0, .int 0, .int (-1)])), (q8, .inl (C 0, 1200, .inl (fun _ => 0)))]) (va_A [(h0, .inr (9, [.null, .int 0, .int 0, .int 0, .int 0, .int 0, .int 0, .int 0]))] sz)) 1 1200 (va_A [(h0, .inr (9, [.null, .int 0, .int 0, .int 0, .int 0, .int 0, .int 0, .int 0]))] sz) := by
  refine Met.ofW (cc := cX9_init) (maxL := 1) (ret := none) (by decide) rfl ?_
  intro p e s m args below meth c s₁ B hml hv
  obtain ⟨rfl, hsz, hP, hK, hN⟩ := hv
  have hx := B.exec
  have hb := B.bytes
  have hr := B.returns
  have hts := fun w h => atoms_spec (ws := Cond.code yX9_init cX9_init 1 none :: wsL_law) B.pre w (List.mem_cons_of_mem _ h)
  have hown : s.vm.findClass RX9 = some m.cls := findClass_of_methodNamed B.named
  have hin : meth.name = "<init>" := (name_of_methodNamed B.named B.method).1
  subst hsz
  have hD := (D_one (h0, .inr (9, [.null, .int 0, .int 0, .int 0, .int 0, .int 0, .int 0, .int 0]))).self (sz := s.heap.size)
  generalize hAe : va_A [(h0, .inr (9, [.null, .int 0, .int 0, .int 0, .int 0, .int 0, .int 0, .int 0]))] s.heap.size = A at hD ⊢
  have hA : ∀ q : Nat, s.heap.size ≤ q → A q := fun q h => by rw [← hAe]; exact Or.inr h
  have hS : va_S A s.heap s.heap [] := va_S.rf
  have hl := lv_entry ([.ref h0]) (n := 1) (Nat.le_of_ble_eq_true rfl)
  rw [lg_entry_eq]
  generalize (lg_sl ([.ref h0]) ++ List.replicate (1 - (lg_sl ([.ref h0])).length) Slot.unset).toArray = ls at hl ⊢
  have hl : lv_has ls 1 [(0, .ref h0)] := hl
  refine lv_aload_n hx hb dX9_init_0 rfl (lv_at hl 0 rfl) ?_
  refine W.objInit hx hb hown (hts (.methodLink RX9 3 objectInit) kw_55) (hts (.instanceMethod objectInit) kw_11) (hts _ kw_12) rfl (by rw [hml]; exact hl.1) rfl dX9_init_1 (Nat.le_of_ble_eq_true rfl) (Nat.le_of_ble_eq_true rfl) ?_
  refine W.eq (g2 := F0 m 4 ls []) rfl ?_
  refine lv_aload_n hx hb dX9_init_4 rfl (lv_at hl 0 rfl) ?_
  refine lv_sipush (v := 1200) hx hb dX9_init_5 (by decide) ?_
  refine va_newa (atype := .byte) (ty := .byte) (N' := 1200) (n := 1200) (a0 := (1200, .inl (fun _ => 0))) hx hb (hts (.arrayClass .byte) kw_56) rfl hK hP hD hS hA (nw_byte 1200) (by decide) (by decide) (show 1200 * 1 ≤ 536870912 by omega) (by decide) (by decide) dX9_init_8 (fun q8 cA H hK9 hP hD hS => ?_)
  obtain rfl : cA = C 0 := nk_byte hK9
  have hP : va_P D vwCl [(h0, .inr (9, [.null, .int 0, .int 0, .int 0, .int 0, .int 0, .int 0, .int 0])), (q8, .inl (C 0, 1200, .inl (fun _ => 0)))] H := hP
  have hD : va_D A [(h0, .inr (9, [.null, .int 0, .int 0, .int 0, .int 0, .int 0, .int 0, .int 0])), (q8, .inl (C 0, 1200, .inl (fun _ => 0)))] := hD
  refine W.widen (k := 1) (n := 1200) (by omega) (by omega) ?_
  refine va_putF (D := D) (ci := 9) (v := .ref q8) (ty := (.array .byte)) (C := RX9) (T := TX9) (N := 8) hx hb hts inlX9 tyX9 tyX9_ok nmX9 hown hK hP hD hS 0 rfl rfl 0 (by decide) (hts _ kw_57) (fun _ h9 => h9) rfl hin rfl (by decide +kernel) rfl rfl (Nat.le_of_ble_eq_true rfl) dX9_init_10 (fun H locs hP hD hS => ?_)
  have hP : va_P D vwCl [(h0, .inr (9, [.ref q8, .int 0, .int 0, .int 0, .int 0, .int 0, .int 0, .int 0])), (q8, .inl (C 0, 1200, .inl (fun _ => 0)))] H := hP
  have hD : va_D A [(h0, .inr (9, [.ref q8, .int 0, .int 0, .int 0, .int 0, .int 0, .int 0, .int 0])), (q8, .inl (C 0, 1200, .inl (fun _ => 0)))] := hD
  refine lv_aload_n hx hb dX9_init_13 rfl (lv_at hl 0 rfl) ?_
  refine lv_iconst (v := (-1)) hx hb dX9_init_14 (by decide) ?_
  refine va_put (D := D) (ci := 9) (v := .int (-1)) (ty := .int) (C := RX9) (T := TX9) (N := 8) hx hb hts inlX9 tyX9 tyX9_ok nmX9 hown hK hP hD hS 0 rfl rfl 7 (by decide) (hts _ kw_58) (fun _ h9 => h9) rfl (by decide +kernel) rfl rfl (Nat.le_of_ble_eq_true rfl) dX9_init_15 (fun H locs hP hD hS => ?_)
  have hP : va_P D vwCl [(h0, .inr (9, [.ref q8, .int 0, .int 0, .int 0, .int 0, .int 0, .int 0, .int (-1)])), (q8, .inl (C 0, 1200, .inl (fun _ => 0)))] H := hP
  have hD : va_D A [(h0, .inr (9, [.ref q8, .int 0, .int 0, .int 0, .int 0, .int 0, .int 0, .int (-1)])), (q8, .inl (C 0, 1200, .inl (fun _ => 0)))] := hD
  exact W.vret hx hb hr (fun t ht hW => ⟨⟨(), rfl, trivial, q8, by rw [ht]; exact hP, hD⟩, hS.F ht⟩) hS.2.2 dX9_init_18
abbrev rk_X1 : Room := { frames := 1, cells := 2, slots := 8, locals := 12 }
set_option maxHeartbeats 4000000 in
set_option maxRecDepth 100000 in
theorem kc_X1 (l : Launch) (D : va_G) (C : Nat → ClassId) (h0  : Nat) (sz : Nat) : Met l yX1_init (Cond.code yX1_init cX1_init 1 none :: wsL_law) rk_X1 (va_Pc [.ref h0] (fun U => U.heap.size = sz ∧ va_P D vwCl [(h0, .inr (1, [.int 0, .int 0, .null, .null]))] U.heap ∧ va_K D vwCl (tyL C) U ∧ NX U)) (va_Qv (fun _ : Unit => True) (fun _ t => ∃ (q6 : Nat) (q13 : Nat), va_P D vwCl [(h0, .inr (1, [.int 16, .int 2, .ref q6, .ref q13])), (q6, .inl (C 1, 4, .inl (upd (upd (fun _ => 0) 0 16) 1 16))), (q13, .inl (C 1, 4, .inl (upd (upd (fun _ => 0) 0 16) 1 16)))] t.heap ∧ va_D (va_A [(h0, .inr (1, [.int 0, .int 0, .null, .null]))] sz) [(h0, .inr (1, [.int 16, .int 2, .ref q6, .ref q13])), (q6, .inl (C 1, 4, .inl (upd (upd (fun _ => 0) 0 16) 1 16))), (q13, .inl (C 1, 4, .inl (upd (upd (fun _ => 0) 0 16) 1 16)))]) (va_A [(h0, .inr (1, [.int 0, .int 0, .null, .null]))] sz)) 2 8 (va_A [(h0, .inr (1, [.int 0, .int 0, .null, .null]))] sz) := by
  refine Met.ofW (cc := cX1_init) (maxL := 1) (ret := none) (by decide) rfl ?_
  intro p e s m args below meth c s₁ B hml hv
  obtain ⟨rfl, hsz, hP, hK, hN⟩ := hv
  have hx := B.exec
  have hb := B.bytes
  have hr := B.returns
  have hts := fun w h => atoms_spec (ws := Cond.code yX1_init cX1_init 1 none :: wsL_law) B.pre w (List.mem_cons_of_mem _ h)
  have hown : s.vm.findClass RX1 = some m.cls := findClass_of_methodNamed B.named
  have hin : meth.name = "<init>" := (name_of_methodNamed B.named B.method).1
  subst hsz
  have hD := (D_one (h0, .inr (1, [.int 0, .int 0, .null, .null]))).self (sz := s.heap.size)
  generalize hAe : va_A [(h0, .inr (1, [.int 0, .int 0, .null, .null]))] s.heap.size = A at hD ⊢
  have hA : ∀ q : Nat, s.heap.size ≤ q → A q := fun q h => by rw [← hAe]; exact Or.inr h
  have hS : va_S A s.heap s.heap [] := va_S.rf
  have hl := lv_entry ([.ref h0]) (n := 1) (Nat.le_of_ble_eq_true rfl)
  rw [lg_entry_eq]
  generalize (lg_sl ([.ref h0]) ++ List.replicate (1 - (lg_sl ([.ref h0])).length) Slot.unset).toArray = ls at hl ⊢
  have hl : lv_has ls 1 [(0, .ref h0)] := hl
  refine lv_aload_n hx hb dX1_init_0 rfl (lv_at hl 0 rfl) ?_
  refine W.objInit hx hb hown (hts (.methodLink RX1 3 objectInit) kw_62) (hts (.instanceMethod objectInit) kw_11) (hts _ kw_12) rfl (by rw [hml]; exact hl.1) rfl dX1_init_1 (Nat.le_of_ble_eq_true rfl) (Nat.le_of_ble_eq_true rfl) ?_
  refine W.eq (g2 := F0 m 4 ls []) rfl ?_
  refine lv_aload_n hx hb dX1_init_4 rfl (lv_at hl 0 rfl) ?_
  refine lv_iconst (v := 4) hx hb dX1_init_5 (by decide) ?_
  refine va_newa (atype := .int) (ty := .int) (N' := 4) (n := 4) (a0 := (4, .inl (fun _ => 0))) hx hb (hts (.arrayClass .int) kw_63) rfl hK hP hD hS hA (nw_int 4) (by decide) (by decide) (show 4 * 4 ≤ 536870912 by omega) (by decide) (by decide) dX1_init_6 (fun q6 cA H hK9 hP hD hS => ?_)
  obtain rfl : cA = C 1 := nk_int hK9
  have hP : va_P D vwCl [(h0, .inr (1, [.int 0, .int 0, .null, .null])), (q6, .inl (C 1, 4, .inl (fun _ => 0)))] H := hP
  have hD : va_D A [(h0, .inr (1, [.int 0, .int 0, .null, .null])), (q6, .inl (C 1, 4, .inl (fun _ => 0)))] := hD
  refine W.widen (k := 1) (n := 4) (by omega) (by omega) ?_
  refine va_putF (D := D) (ci := 1) (v := .ref q6) (ty := (.array .int)) (C := RX1) (T := TX1) (N := 4) hx hb hts inlX1 tyX1 tyX1_ok nmX1 hown hK hP hD hS 0 rfl rfl 2 (by decide) (hts _ kw_64) (fun _ h9 => h9) rfl hin rfl (by decide +kernel) rfl rfl (Nat.le_of_ble_eq_true rfl) dX1_init_8 (fun H locs hP hD hS => ?_)
  have hP : va_P D vwCl [(h0, .inr (1, [.int 0, .int 0, .ref q6, .null])), (q6, .inl (C 1, 4, .inl (fun _ => 0)))] H := hP
  have hD : va_D A [(h0, .inr (1, [.int 0, .int 0, .ref q6, .null])), (q6, .inl (C 1, 4, .inl (fun _ => 0)))] := hD
  refine lv_aload_n hx hb dX1_init_11 rfl (lv_at hl 0 rfl) ?_
  refine lv_iconst (v := 4) hx hb dX1_init_12 (by decide) ?_
  refine va_newa (atype := .int) (ty := .int) (N' := 4) (n := 4) (a0 := (4, .inl (fun _ => 0))) hx hb (hts (.arrayClass .int) kw_63) rfl hK hP hD hS hA (nw_int 4) (by decide) (by decide) (show 4 * 4 ≤ 536870912 by omega) (by decide) (by decide) dX1_init_13 (fun q13 cA H hK9 hP hD hS => ?_)
  obtain rfl : cA = C 1 := nk_int hK9
  have hP : va_P D vwCl [(h0, .inr (1, [.int 0, .int 0, .ref q6, .null])), (q6, .inl (C 1, 4, .inl (fun _ => 0))), (q13, .inl (C 1, 4, .inl (fun _ => 0)))] H := hP
  have hD : va_D A [(h0, .inr (1, [.int 0, .int 0, .ref q6, .null])), (q6, .inl (C 1, 4, .inl (fun _ => 0))), (q13, .inl (C 1, 4, .inl (fun _ => 0)))] := hD
  refine W.widen (k := 2) (n := 8) (by omega) (by omega) ?_
  refine va_putF (D := D) (ci := 1) (v := .ref q13) (ty := (.array .int)) (C := RX1) (T := TX1) (N := 4) hx hb hts inlX1 tyX1 tyX1_ok nmX1 hown hK hP hD hS 0 rfl rfl 3 (by decide) (hts _ kw_65) (fun _ h9 => h9) rfl hin rfl (by decide +kernel) rfl rfl (Nat.le_of_ble_eq_true rfl) dX1_init_15 (fun H locs hP hD hS => ?_)
  have hP : va_P D vwCl [(h0, .inr (1, [.int 0, .int 0, .ref q6, .ref q13])), (q6, .inl (C 1, 4, .inl (fun _ => 0))), (q13, .inl (C 1, 4, .inl (fun _ => 0)))] H := hP
  have hD : va_D A [(h0, .inr (1, [.int 0, .int 0, .ref q6, .ref q13])), (q6, .inl (C 1, 4, .inl (fun _ => 0))), (q13, .inl (C 1, 4, .inl (fun _ => 0)))] := hD
  refine lv_aload_n hx hb dX1_init_18 rfl (lv_at hl 0 rfl) ?_
  refine lv_bipush (v := 16) hx hb dX1_init_19 (by decide) ?_
  refine va_put (D := D) (ci := 1) (v := .int 16) (ty := .int) (C := RX1) (T := TX1) (N := 4) hx hb hts inlX1 tyX1 tyX1_ok nmX1 hown hK hP hD hS 0 rfl rfl 0 (by decide) (hts _ kw_66) (fun _ h9 => h9) rfl (by decide +kernel) rfl rfl (Nat.le_of_ble_eq_true rfl) dX1_init_21 (fun H locs hP hD hS => ?_)
  have hP : va_P D vwCl [(h0, .inr (1, [.int 16, .int 0, .ref q6, .ref q13])), (q6, .inl (C 1, 4, .inl (fun _ => 0))), (q13, .inl (C 1, 4, .inl (fun _ => 0)))] H := hP
  have hD : va_D A [(h0, .inr (1, [.int 16, .int 0, .ref q6, .ref q13])), (q6, .inl (C 1, 4, .inl (fun _ => 0))), (q13, .inl (C 1, 4, .inl (fun _ => 0)))] := hD
  refine lv_aload_n hx hb dX1_init_24 rfl (lv_at hl 0 rfl) ?_
  refine lv_iconst (v := 2) hx hb dX1_init_25 (by decide) ?_
  refine va_put (D := D) (ci := 1) (v := .int 2) (ty := .int) (C := RX1) (T := TX1) (N := 4) hx hb hts inlX1 tyX1 tyX1_ok nmX1 hown hK hP hD hS 0 rfl rfl 1 (by decide) (hts _ kw_67) (fun _ h9 => h9) rfl (by decide +kernel) rfl rfl (Nat.le_of_ble_eq_true rfl) dX1_init_26 (fun H locs hP hD hS => ?_)
  have hP : va_P D vwCl [(h0, .inr (1, [.int 16, .int 2, .ref q6, .ref q13])), (q6, .inl (C 1, 4, .inl (fun _ => 0))), (q13, .inl (C 1, 4, .inl (fun _ => 0)))] H := hP
  have hD : va_D A [(h0, .inr (1, [.int 16, .int 2, .ref q6, .ref q13])), (q6, .inl (C 1, 4, .inl (fun _ => 0))), (q13, .inl (C 1, 4, .inl (fun _ => 0)))] := hD
  refine lv_aload_n hx hb dX1_init_29 rfl (lv_at hl 0 rfl) ?_
  refine va_get (D := D) (ci := 1) (C := RX1) (T := TX1) (N := 4) hx hb hts inlX1 hown hK hP 0 rfl rfl 2 (by decide) (hts _ kw_64) (fun _ h9 => h9) rfl dX1_init_30 ?_
  refine lv_iconst (v := 0) hx hb dX1_init_33 (by decide) ?_
  refine lv_bipush (v := 16) hx hb dX1_init_34 (by decide) ?_
  refine va_iast hx hb hK hP hD hS 1 1 rfl rfl (i := 0) (x := 16) (show vp_in (nI 0) 4 from vp_in_nI (by omega) (by omega)) dX1_init_36 (fun H locs hP hD hS => ?_)
  have hP : va_P D vwCl [(h0, .inr (1, [.int 16, .int 2, .ref q6, .ref q13])), (q6, .inl (C 1, 4, .inl (upd (fun _ => 0) 0 16))), (q13, .inl (C 1, 4, .inl (fun _ => 0)))] H := hP
  have hD : va_D A [(h0, .inr (1, [.int 16, .int 2, .ref q6, .ref q13])), (q6, .inl (C 1, 4, .inl (upd (fun _ => 0) 0 16))), (q13, .inl (C 1, 4, .inl (fun _ => 0)))] := hD
  refine lv_aload_n hx hb dX1_init_37 rfl (lv_at hl 0 rfl) ?_
  refine va_get (D := D) (ci := 1) (C := RX1) (T := TX1) (N := 4) hx hb hts inlX1 hown hK hP 0 rfl rfl 2 (by decide) (hts _ kw_64) (fun _ h9 => h9) rfl dX1_init_38 ?_
  refine lv_iconst (v := 1) hx hb dX1_init_41 (by decide) ?_
  refine lv_bipush (v := 16) hx hb dX1_init_42 (by decide) ?_
  refine va_iast hx hb hK hP hD hS 1 1 rfl rfl (i := 1) (x := 16) (show vp_in (nI 1) 4 from vp_in_nI (by omega) (by omega)) dX1_init_44 (fun H locs hP hD hS => ?_)
  have hP : va_P D vwCl [(h0, .inr (1, [.int 16, .int 2, .ref q6, .ref q13])), (q6, .inl (C 1, 4, .inl (upd (upd (fun _ => 0) 0 16) 1 16))), (q13, .inl (C 1, 4, .inl (fun _ => 0)))] H := hP
  have hD : va_D A [(h0, .inr (1, [.int 16, .int 2, .ref q6, .ref q13])), (q6, .inl (C 1, 4, .inl (upd (upd (fun _ => 0) 0 16) 1 16))), (q13, .inl (C 1, 4, .inl (fun _ => 0)))] := hD
  refine lv_aload_n hx hb dX1_init_45 rfl (lv_at hl 0 rfl) ?_
  refine va_get (D := D) (ci := 1) (C := RX1) (T := TX1) (N := 4) hx hb hts inlX1 hown hK hP 0 rfl rfl 3 (by decide) (hts _ kw_65) (fun _ h9 => h9) rfl dX1_init_46 ?_
  refine lv_iconst (v := 0) hx hb dX1_init_49 (by decide) ?_
  refine lv_bipush (v := 16) hx hb dX1_init_50 (by decide) ?_
  refine va_iast hx hb hK hP hD hS 2 1 rfl rfl (i := 0) (x := 16) (show vp_in (nI 0) 4 from vp_in_nI (by omega) (by omega)) dX1_init_52 (fun H locs hP hD hS => ?_)
  have hP : va_P D vwCl [(h0, .inr (1, [.int 16, .int 2, .ref q6, .ref q13])), (q6, .inl (C 1, 4, .inl (upd (upd (fun _ => 0) 0 16) 1 16))), (q13, .inl (C 1, 4, .inl (upd (fun _ => 0) 0 16)))] H := hP
  have hD : va_D A [(h0, .inr (1, [.int 16, .int 2, .ref q6, .ref q13])), (q6, .inl (C 1, 4, .inl (upd (upd (fun _ => 0) 0 16) 1 16))), (q13, .inl (C 1, 4, .inl (upd (fun _ => 0) 0 16)))] := hD
  refine lv_aload_n hx hb dX1_init_53 rfl (lv_at hl 0 rfl) ?_
  refine va_get (D := D) (ci := 1) (C := RX1) (T := TX1) (N := 4) hx hb hts inlX1 hown hK hP 0 rfl rfl 3 (by decide) (hts _ kw_65) (fun _ h9 => h9) rfl dX1_init_54 ?_
  refine lv_iconst (v := 1) hx hb dX1_init_57 (by decide) ?_
  refine lv_bipush (v := 16) hx hb dX1_init_58 (by decide) ?_
  refine va_iast hx hb hK hP hD hS 2 1 rfl rfl (i := 1) (x := 16) (show vp_in (nI 1) 4 from vp_in_nI (by omega) (by omega)) dX1_init_60 (fun H locs hP hD hS => ?_)
  have hP : va_P D vwCl [(h0, .inr (1, [.int 16, .int 2, .ref q6, .ref q13])), (q6, .inl (C 1, 4, .inl (upd (upd (fun _ => 0) 0 16) 1 16))), (q13, .inl (C 1, 4, .inl (upd (upd (fun _ => 0) 0 16) 1 16)))] H := hP
  have hD : va_D A [(h0, .inr (1, [.int 16, .int 2, .ref q6, .ref q13])), (q6, .inl (C 1, 4, .inl (upd (upd (fun _ => 0) 0 16) 1 16))), (q13, .inl (C 1, 4, .inl (upd (upd (fun _ => 0) 0 16) 1 16)))] := hD
  exact W.vret hx hb hr (fun t ht hW => ⟨⟨(), rfl, trivial, q6, q13, by rw [ht]; exact hP, hD⟩, hS.F ht⟩) hS.2.2 dX1_init_61
abbrev rk_X2 : Room := { frames := 2, cells := 3, slots := 12, locals := 32 }
set_option maxHeartbeats 4000000 in
set_option maxRecDepth 100000 in
theorem kc_X2 (l : Launch) (D : va_G) (C : Nat → ClassId) (h0 p1 : Nat) (sz : Nat) : Met l yX2_init (Cond.code yX2_init cX2_init 2 none :: wsL_law) rk_X2 (va_Pc [.ref h0, .ref p1] (fun U => U.heap.size = sz ∧ va_P D vwCl [(h0, .inr (2, [.null, .null]))] U.heap ∧ va_K D vwCl (tyL C) U ∧ NX U)) (va_Qv (fun _ : Unit => True) (fun _ t => ∃ (q5 : Nat) (q6_9 : Nat) (q13_9 : Nat), va_P D vwCl [(h0, .inr (2, [.ref p1, .ref q5])), (q5, .inr (1, [.int 16, .int 2, .ref q6_9, .ref q13_9])), (q6_9, .inl (C 1, 4, .inl (upd (upd (fun _ => 0) 0 16) 1 16))), (q13_9, .inl (C 1, 4, .inl (upd (upd (fun _ => 0) 0 16) 1 16)))] t.heap ∧ va_D (va_A [(h0, .inr (2, [.null, .null]))] sz) [(h0, .inr (2, [.ref p1, .ref q5])), (q5, .inr (1, [.int 16, .int 2, .ref q6_9, .ref q13_9])), (q6_9, .inl (C 1, 4, .inl (upd (upd (fun _ => 0) 0 16) 1 16))), (q13_9, .inl (C 1, 4, .inl (upd (upd (fun _ => 0) 0 16) 1 16)))]) (va_A [(h0, .inr (2, [.null, .null]))] sz)) 3 12 (va_A [(h0, .inr (2, [.null, .null]))] sz) := by
  refine Met.ofW (cc := cX2_init) (maxL := 2) (ret := none) (by decide) rfl ?_
  intro p e s m args below meth c s₁ B hml hv
  obtain ⟨rfl, hsz, hP, hK, hN⟩ := hv
  have hx := B.exec
  have hb := B.bytes
  have hr := B.returns
  have hts := fun w h => atoms_spec (ws := Cond.code yX2_init cX2_init 2 none :: wsL_law) B.pre w (List.mem_cons_of_mem _ h)
  have hown : s.vm.findClass RX2 = some m.cls := findClass_of_methodNamed B.named
  have hin : meth.name = "<init>" := (name_of_methodNamed B.named B.method).1
  subst hsz
  have hD := (D_one (h0, .inr (2, [.null, .null]))).self (sz := s.heap.size)
  generalize hAe : va_A [(h0, .inr (2, [.null, .null]))] s.heap.size = A at hD ⊢
  have hA : ∀ q : Nat, s.heap.size ≤ q → A q := fun q h => by rw [← hAe]; exact Or.inr h
  have hS : va_S A s.heap s.heap [] := va_S.rf
  have hl := lv_entry ([.ref h0, .ref p1]) (n := 2) (Nat.le_of_ble_eq_true rfl)
  rw [lg_entry_eq]
  generalize (lg_sl ([.ref h0, .ref p1]) ++ List.replicate (2 - (lg_sl ([.ref h0, .ref p1])).length) Slot.unset).toArray = ls at hl ⊢
  have hl : lv_has ls 2 [(0, .ref h0), (1, .ref p1)] := hl
  refine lv_aload_n hx hb dX2_init_0 rfl (lv_at hl 0 rfl) ?_
  refine W.objInit hx hb hown (hts (.methodLink RX2 3 objectInit) kw_71) (hts (.instanceMethod objectInit) kw_11) (hts _ kw_12) rfl (by rw [hml]; exact hl.1) rfl dX2_init_1 (Nat.le_of_ble_eq_true rfl) (Nat.le_of_ble_eq_true rfl) ?_
  refine W.eq (g2 := F0 m 4 ls []) rfl ?_
  refine lv_aload_n hx hb dX2_init_4 rfl (lv_at hl 0 rfl) ?_
  refine va_new (ci := 1) (fs := [.int 0, .int 0, .null, .null]) (C := RX1) (T := TX1) (N := 4) hx hb hts inlX1 tyX1 tyX1_ok hown (hts _ kw_72) (hts (.instantiable RX1 4) kw_18) (hts (.initialized RX1) kw_19) hK hP hD hS hA rfl (fun j hj => match j, hj with | 0, _ => rfl | 1, _ => rfl | 2, _ => rfl | 3, _ => rfl) (by decide) (by decide) dX2_init_5 (fun q5 H hP hD hS => ?_)
  have hP : va_P D vwCl [(h0, .inr (2, [.null, .null])), (q5, .inr (1, [.int 0, .int 0, .null, .null]))] H := hP
  have hD : va_D A [(h0, .inr (2, [.null, .null])), (q5, .inr (1, [.int 0, .int 0, .null, .null]))] := hD
  refine W.widen (k := 1) (n := 4) (by omega) (by omega) ?_
  refine lv_dup hx hb dX2_init_8 rfl ?_
  have hPc := hP.sub (ws' := [(q5, .inr (1, [.int 0, .int 0, .null, .null]))]) [1] rfl
  have hFc := va_free (wc := [(q5, .inr (1, [.int 0, .int 0, .null, .null]))]) hD hS hA [1] rfl
  refine va_callv (va_runI (As := []) (rest := [.ref q5, .ref h0]) ⟨hx, hb, hml, hown, hts⟩ (kc_X1 l D C q5 H.size) (cwI 0 hts (gd_I kw_61) rfl rfl rfl (hts (.initialized RX1) kw_19) (hts (.methodLink RX2 11 yX1_init) kw_75) (hts (.instanceMethod yX1_init) kw_60) rfl (by decide +kernel) ⟨Nat.le_of_ble_eq_true rfl, Nat.le_of_ble_eq_true rfl⟩) ⟨fun a U g mk q => by obtain ⟨q0, q1, qP, qK, qN⟩ := q; exact ⟨q0, q1, qP, va_K.moved (u := U) (U := U.calling g mk a) (Vm.Alike.refl U.vm) qK, qN.calling g mk a⟩, fun U hU hW => ⟨rfl, by rw [hU], by rw [hU]; exact hPc, va_K.moved hW.alike hK, hN.warm hW⟩⟩ rfl rfl hl.1 rfl (lv_room (Nat.le_of_ble_eq_true rfl)) dX2_init_9 ⟨by decide, by decide⟩) hS (fun q _ h => hFc q h) hFc (fun u t H1 locs ht hvm hw hB hz1 hk1 hS => ?_)
  obtain ⟨q6_9, q13_9, hP1, hD1⟩ := hB
  rw [ht] at hP1
  obtain ⟨hP, hD⟩ := va_join (wr := [(h0, .inr (2, [.null, .null]))]) (w1 := [(q5, .inr (1, [.int 16, .int 2, .ref q6_9, .ref q13_9])), (q6_9, .inl (C 1, 4, .inl (upd (upd (fun _ => 0) 0 16) 1 16))), (q13_9, .inl (C 1, 4, .inl (upd (upd (fun _ => 0) 0 16) 1 16)))]) hP hD [1] [0] rfl rfl (by decide) (by decide) hk1 hFc hP1 hD1
  generalize H1 = H at hP hS ⊢
  have hP : va_P D vwCl [(h0, .inr (2, [.null, .null])), (q5, .inr (1, [.int 16, .int 2, .ref q6_9, .ref q13_9])), (q6_9, .inl (C 1, 4, .inl (upd (upd (fun _ => 0) 0 16) 1 16))), (q13_9, .inl (C 1, 4, .inl (upd (upd (fun _ => 0) 0 16) 1 16)))] H := hP
  have hD : va_D A [(h0, .inr (2, [.null, .null])), (q5, .inr (1, [.int 16, .int 2, .ref q6_9, .ref q13_9])), (q6_9, .inl (C 1, 4, .inl (upd (upd (fun _ => 0) 0 16) 1 16))), (q13_9, .inl (C 1, 4, .inl (upd (upd (fun _ => 0) 0 16) 1 16)))] := hD
  refine W.widen (k := 3) (n := 12) (by omega) (by omega) ?_
  refine va_putF (D := D) (ci := 2) (v := .ref q5) (ty := (.object "DrumCoder$Drum")) (C := RX2) (T := TX2) (N := 2) hx hb hts inlX2 tyX2 tyX2_ok nmX2 hown hK hP hD hS 0 rfl rfl 1 (by decide) (hts _ kw_73) (fun _ h9 => h9) rfl hin rfl (by decide +kernel) rfl rfl (Nat.le_of_ble_eq_true rfl) dX2_init_12 (fun H locs hP hD hS => ?_)
  have hP : va_P D vwCl [(h0, .inr (2, [.null, .ref q5])), (q5, .inr (1, [.int 16, .int 2, .ref q6_9, .ref q13_9])), (q6_9, .inl (C 1, 4, .inl (upd (upd (fun _ => 0) 0 16) 1 16))), (q13_9, .inl (C 1, 4, .inl (upd (upd (fun _ => 0) 0 16) 1 16)))] H := hP
  have hD : va_D A [(h0, .inr (2, [.null, .ref q5])), (q5, .inr (1, [.int 16, .int 2, .ref q6_9, .ref q13_9])), (q6_9, .inl (C 1, 4, .inl (upd (upd (fun _ => 0) 0 16) 1 16))), (q13_9, .inl (C 1, 4, .inl (upd (upd (fun _ => 0) 0 16) 1 16)))] := hD
  refine lv_aload_n hx hb dX2_init_15 rfl (lv_at hl 0 rfl) ?_
  refine lv_aload_n hx hb dX2_init_16 rfl (lv_at hl 1 rfl) ?_
  refine va_putF (D := D) (ci := 2) (v := .ref p1) (ty := (.object "DrumCoder$Tape")) (C := RX2) (T := TX2) (N := 2) hx hb hts inlX2 tyX2 tyX2_ok nmX2 hown hK hP hD hS 0 rfl rfl 0 (by decide) (hts _ kw_74) (fun _ h9 => h9) rfl hin rfl (by decide +kernel) rfl rfl (Nat.le_of_ble_eq_true rfl) dX2_init_17 (fun H locs hP hD hS => ?_)
  have hP : va_P D vwCl [(h0, .inr (2, [.ref p1, .ref q5])), (q5, .inr (1, [.int 16, .int 2, .ref q6_9, .ref q13_9])), (q6_9, .inl (C 1, 4, .inl (upd (upd (fun _ => 0) 0 16) 1 16))), (q13_9, .inl (C 1, 4, .inl (upd (upd (fun _ => 0) 0 16) 1 16)))] H := hP
  have hD : va_D A [(h0, .inr (2, [.ref p1, .ref q5])), (q5, .inr (1, [.int 16, .int 2, .ref q6_9, .ref q13_9])), (q6_9, .inl (C 1, 4, .inl (upd (upd (fun _ => 0) 0 16) 1 16))), (q13_9, .inl (C 1, 4, .inl (upd (upd (fun _ => 0) 0 16) 1 16)))] := hD
  exact W.vret hx hb hr (fun t ht hW => ⟨⟨(), rfl, trivial, q5, q6_9, q13_9, by rw [ht]; exact hP, hD⟩, hS.F ht⟩) hS.2.2 dX2_init_20
abbrev rk_X5 : Room := { frames := 1, cells := 3, slots := 120, locals := 12 }
set_option maxHeartbeats 4000000 in
set_option maxRecDepth 100000 in
theorem kc_X5 (l : Launch) (D : va_G) (C : Nat → ClassId) (h0  : Nat) (sz : Nat) : Met l yX5_init (Cond.code yX5_init cX5_init 1 none :: wsL_law) rk_X5 (va_Pc [.ref h0] (fun U => U.heap.size = sz ∧ va_P D vwCl [(h0, .inr (5, [.int 0, .int 0, .null, .null, .null, .int 0]))] U.heap ∧ va_K D vwCl (tyL C) U ∧ NX U)) (va_Qv (fun _ : Unit => True) (fun _ t => ∃ (q7 : Nat) (q15 : Nat) (q23 : Nat), va_P D vwCl [(h0, .inr (5, [.int 0, .int 0, .ref q7, .ref q15, .ref q23, .int 0])), (q7, .inl (C 1, 40, .inl (fun _ => 0))), (q15, .inl (C 1, 40, .inl (fun _ => 0))), (q23, .inl (C 1, 40, .inl (fun _ => 0)))] t.heap ∧ va_D (va_A [(h0, .inr (5, [.int 0, .int 0, .null, .null, .null, .int 0]))] sz) [(h0, .inr (5, [.int 0, .int 0, .ref q7, .ref q15, .ref q23, .int 0])), (q7, .inl (C 1, 40, .inl (fun _ => 0))), (q15, .inl (C 1, 40, .inl (fun _ => 0))), (q23, .inl (C 1, 40, .inl (fun _ => 0)))]) (va_A [(h0, .inr (5, [.int 0, .int 0, .null, .null, .null, .int 0]))] sz)) 3 120 (va_A [(h0, .inr (5, [.int 0, .int 0, .null, .null, .null, .int 0]))] sz) := by
  refine Met.ofW (cc := cX5_init) (maxL := 1) (ret := none) (by decide) rfl ?_
  intro p e s m args below meth c s₁ B hml hv
  obtain ⟨rfl, hsz, hP, hK, hN⟩ := hv
  have hx := B.exec
  have hb := B.bytes
  have hr := B.returns
  have hts := fun w h => atoms_spec (ws := Cond.code yX5_init cX5_init 1 none :: wsL_law) B.pre w (List.mem_cons_of_mem _ h)
  have hown : s.vm.findClass RX5 = some m.cls := findClass_of_methodNamed B.named
  have hin : meth.name = "<init>" := (name_of_methodNamed B.named B.method).1
  subst hsz
  have hD := (D_one (h0, .inr (5, [.int 0, .int 0, .null, .null, .null, .int 0]))).self (sz := s.heap.size)
  generalize hAe : va_A [(h0, .inr (5, [.int 0, .int 0, .null, .null, .null, .int 0]))] s.heap.size = A at hD ⊢
  have hA : ∀ q : Nat, s.heap.size ≤ q → A q := fun q h => by rw [← hAe]; exact Or.inr h
  have hS : va_S A s.heap s.heap [] := va_S.rf
  have hl := lv_entry ([.ref h0]) (n := 1) (Nat.le_of_ble_eq_true rfl)
  rw [lg_entry_eq]
  generalize (lg_sl ([.ref h0]) ++ List.replicate (1 - (lg_sl ([.ref h0])).length) Slot.unset).toArray = ls at hl ⊢
  have hl : lv_has ls 1 [(0, .ref h0)] := hl
  refine lv_aload_n hx hb dX5_init_0 rfl (lv_at hl 0 rfl) ?_
  refine W.objInit hx hb hown (hts (.methodLink RX5 3 objectInit) kw_78) (hts (.instanceMethod objectInit) kw_11) (hts _ kw_12) rfl (by rw [hml]; exact hl.1) rfl dX5_init_1 (Nat.le_of_ble_eq_true rfl) (Nat.le_of_ble_eq_true rfl) ?_
  refine W.eq (g2 := F0 m 4 ls []) rfl ?_
  refine lv_aload_n hx hb dX5_init_4 rfl (lv_at hl 0 rfl) ?_
  refine lv_bipush (v := 40) hx hb dX5_init_5 (by decide) ?_
  refine va_newa (atype := .int) (ty := .int) (N' := 40) (n := 40) (a0 := (40, .inl (fun _ => 0))) hx hb (hts (.arrayClass .int) kw_63) rfl hK hP hD hS hA (nw_int 40) (by decide) (by decide) (show 40 * 4 ≤ 536870912 by omega) (by decide) (by decide) dX5_init_7 (fun q7 cA H hK9 hP hD hS => ?_)
  obtain rfl : cA = C 1 := nk_int hK9
  have hP : va_P D vwCl [(h0, .inr (5, [.int 0, .int 0, .null, .null, .null, .int 0])), (q7, .inl (C 1, 40, .inl (fun _ => 0)))] H := hP
  have hD : va_D A [(h0, .inr (5, [.int 0, .int 0, .null, .null, .null, .int 0])), (q7, .inl (C 1, 40, .inl (fun _ => 0)))] := hD
  refine W.widen (k := 1) (n := 40) (by omega) (by omega) ?_
  refine va_putF (D := D) (ci := 5) (v := .ref q7) (ty := (.array .int)) (C := RX5) (T := TX5) (N := 6) hx hb hts inlX5 tyX5 tyX5_ok nmX5 hown hK hP hD hS 0 rfl rfl 2 (by decide) (hts _ kw_79) (fun _ h9 => h9) rfl hin rfl (by decide +kernel) rfl rfl (Nat.le_of_ble_eq_true rfl) dX5_init_9 (fun H locs hP hD hS => ?_)
  have hP : va_P D vwCl [(h0, .inr (5, [.int 0, .int 0, .ref q7, .null, .null, .int 0])), (q7, .inl (C 1, 40, .inl (fun _ => 0)))] H := hP
  have hD : va_D A [(h0, .inr (5, [.int 0, .int 0, .ref q7, .null, .null, .int 0])), (q7, .inl (C 1, 40, .inl (fun _ => 0)))] := hD
  refine lv_aload_n hx hb dX5_init_12 rfl (lv_at hl 0 rfl) ?_
  refine lv_bipush (v := 40) hx hb dX5_init_13 (by decide) ?_
  refine va_newa (atype := .int) (ty := .int) (N' := 40) (n := 40) (a0 := (40, .inl (fun _ => 0))) hx hb (hts (.arrayClass .int) kw_63) rfl hK hP hD hS hA (nw_int 40) (by decide) (by decide) (show 40 * 4 ≤ 536870912 by omega) (by decide) (by decide) dX5_init_15 (fun q15 cA H hK9 hP hD hS => ?_)
  obtain rfl : cA = C 1 := nk_int hK9
  have hP : va_P D vwCl [(h0, .inr (5, [.int 0, .int 0, .ref q7, .null, .null, .int 0])), (q7, .inl (C 1, 40, .inl (fun _ => 0))), (q15, .inl (C 1, 40, .inl (fun _ => 0)))] H := hP
  have hD : va_D A [(h0, .inr (5, [.int 0, .int 0, .ref q7, .null, .null, .int 0])), (q7, .inl (C 1, 40, .inl (fun _ => 0))), (q15, .inl (C 1, 40, .inl (fun _ => 0)))] := hD
  refine W.widen (k := 2) (n := 80) (by omega) (by omega) ?_
  refine va_putF (D := D) (ci := 5) (v := .ref q15) (ty := (.array .int)) (C := RX5) (T := TX5) (N := 6) hx hb hts inlX5 tyX5 tyX5_ok nmX5 hown hK hP hD hS 0 rfl rfl 3 (by decide) (hts _ kw_80) (fun _ h9 => h9) rfl hin rfl (by decide +kernel) rfl rfl (Nat.le_of_ble_eq_true rfl) dX5_init_17 (fun H locs hP hD hS => ?_)
  have hP : va_P D vwCl [(h0, .inr (5, [.int 0, .int 0, .ref q7, .ref q15, .null, .int 0])), (q7, .inl (C 1, 40, .inl (fun _ => 0))), (q15, .inl (C 1, 40, .inl (fun _ => 0)))] H := hP
  have hD : va_D A [(h0, .inr (5, [.int 0, .int 0, .ref q7, .ref q15, .null, .int 0])), (q7, .inl (C 1, 40, .inl (fun _ => 0))), (q15, .inl (C 1, 40, .inl (fun _ => 0)))] := hD
  refine lv_aload_n hx hb dX5_init_20 rfl (lv_at hl 0 rfl) ?_
  refine lv_bipush (v := 40) hx hb dX5_init_21 (by decide) ?_
  refine va_newa (atype := .int) (ty := .int) (N' := 40) (n := 40) (a0 := (40, .inl (fun _ => 0))) hx hb (hts (.arrayClass .int) kw_63) rfl hK hP hD hS hA (nw_int 40) (by decide) (by decide) (show 40 * 4 ≤ 536870912 by omega) (by decide) (by decide) dX5_init_23 (fun q23 cA H hK9 hP hD hS => ?_)
  obtain rfl : cA = C 1 := nk_int hK9
  have hP : va_P D vwCl [(h0, .inr (5, [.int 0, .int 0, .ref q7, .ref q15, .null, .int 0])), (q7, .inl (C 1, 40, .inl (fun _ => 0))), (q15, .inl (C 1, 40, .inl (fun _ => 0))), (q23, .inl (C 1, 40, .inl (fun _ => 0)))] H := hP
  have hD : va_D A [(h0, .inr (5, [.int 0, .int 0, .ref q7, .ref q15, .null, .int 0])), (q7, .inl (C 1, 40, .inl (fun _ => 0))), (q15, .inl (C 1, 40, .inl (fun _ => 0))), (q23, .inl (C 1, 40, .inl (fun _ => 0)))] := hD
  refine W.widen (k := 3) (n := 120) (by omega) (by omega) ?_
  refine va_putF (D := D) (ci := 5) (v := .ref q23) (ty := (.array .int)) (C := RX5) (T := TX5) (N := 6) hx hb hts inlX5 tyX5 tyX5_ok nmX5 hown hK hP hD hS 0 rfl rfl 4 (by decide) (hts _ kw_81) (fun _ h9 => h9) rfl hin rfl (by decide +kernel) rfl rfl (Nat.le_of_ble_eq_true rfl) dX5_init_25 (fun H locs hP hD hS => ?_)
  have hP : va_P D vwCl [(h0, .inr (5, [.int 0, .int 0, .ref q7, .ref q15, .ref q23, .int 0])), (q7, .inl (C 1, 40, .inl (fun _ => 0))), (q15, .inl (C 1, 40, .inl (fun _ => 0))), (q23, .inl (C 1, 40, .inl (fun _ => 0)))] H := hP
  have hD : va_D A [(h0, .inr (5, [.int 0, .int 0, .ref q7, .ref q15, .ref q23, .int 0])), (q7, .inl (C 1, 40, .inl (fun _ => 0))), (q15, .inl (C 1, 40, .inl (fun _ => 0))), (q23, .inl (C 1, 40, .inl (fun _ => 0)))] := hD
  exact W.vret hx hb hr (fun t ht hW => ⟨⟨(), rfl, trivial, q7, q15, q23, by rw [ht]; exact hP, hD⟩, hS.F ht⟩) hS.2.2 dX5_init_28
abbrev rk_X6 : Room := { frames := 2, cells := 10, slots := 366, locals := 32 }
set_option maxHeartbeats 4000000 in
set_option maxRecDepth 100000 in
theorem kc_X6 (l : Launch) (D : va_G) (C : Nat → ClassId) (h0 p1 : Nat) (sz : Nat) : Met l yX6_init (Cond.code yX6_init cX6_init 2 none :: wsL_law) rk_X6 (va_Pc [.ref h0, .ref p1] (fun U => U.heap.size = sz ∧ va_P D vwCl [(h0, .inr (6, [.null, .null, .null, .null, .null, .null, .null, .null]))] U.heap ∧ va_K D vwCl (tyL C) U ∧ NX U)) (va_Qv (fun _ : Unit => True) (fun _ t => ∃ (q5 : Nat) (q7_9 : Nat) (q15_9 : Nat) (q23_9 : Nat) (q18 : Nat) (q26 : Nat) (q34 : Nat) (q42 : Nat) (q50 : Nat) (q58 : Nat), va_P D vwCl [(h0, .inr (6, [.ref p1, .ref q5, .ref q18, .ref q26, .ref q34, .ref q42, .ref q50, .ref q58])), (q5, .inr (5, [.int 0, .int 0, .ref q7_9, .ref q15_9, .ref q23_9, .int 0])), (q7_9, .inl (C 1, 40, .inl (fun _ => 0))), (q15_9, .inl (C 1, 40, .inl (fun _ => 0))), (q23_9, .inl (C 1, 40, .inl (fun _ => 0))), (q18, .inl (C 1, 40, .inl (fun _ => 0))), (q26, .inl (C 1, 40, .inl (fun _ => 0))), (q34, .inl (C 1, 40, .inl (fun _ => 0))), (q42, .inl (C 1, 40, .inl (fun _ => 0))), (q50, .inl (C 1, 40, .inl (fun _ => 0))), (q58, .inl (C 1, 40, .inl (fun _ => 0)))] t.heap ∧ va_D (va_A [(h0, .inr (6, [.null, .null, .null, .null, .null, .null, .null, .null]))] sz) [(h0, .inr (6, [.ref p1, .ref q5, .ref q18, .ref q26, .ref q34, .ref q42, .ref q50, .ref q58])), (q5, .inr (5, [.int 0, .int 0, .ref q7_9, .ref q15_9, .ref q23_9, .int 0])), (q7_9, .inl (C 1, 40, .inl (fun _ => 0))), (q15_9, .inl (C 1, 40, .inl (fun _ => 0))), (q23_9, .inl (C 1, 40, .inl (fun _ => 0))), (q18, .inl (C 1, 40, .inl (fun _ => 0))), (q26, .inl (C 1, 40, .inl (fun _ => 0))), (q34, .inl (C 1, 40, .inl (fun _ => 0))), (q42, .inl (C 1, 40, .inl (fun _ => 0))), (q50, .inl (C 1, 40, .inl (fun _ => 0))), (q58, .inl (C 1, 40, .inl (fun _ => 0)))]) (va_A [(h0, .inr (6, [.null, .null, .null, .null, .null, .null, .null, .null]))] sz)) 10 366 (va_A [(h0, .inr (6, [.null, .null, .null, .null, .null, .null, .null, .null]))] sz) := by
  refine Met.ofW (cc := cX6_init) (maxL := 2) (ret := none) (by decide) rfl ?_
  intro p e s m args below meth c s₁ B hml hv
  obtain ⟨rfl, hsz, hP, hK, hN⟩ := hv
  have hx := B.exec
  have hb := B.bytes
  have hr := B.returns
  have hts := fun w h => atoms_spec (ws := Cond.code yX6_init cX6_init 2 none :: wsL_law) B.pre w (List.mem_cons_of_mem _ h)
  have hown : s.vm.findClass RX6 = some m.cls := findClass_of_methodNamed B.named
  have hin : meth.name = "<init>" := (name_of_methodNamed B.named B.method).1
  subst hsz
  have hD := (D_one (h0, .inr (6, [.null, .null, .null, .null, .null, .null, .null, .null]))).self (sz := s.heap.size)
  generalize hAe : va_A [(h0, .inr (6, [.null, .null, .null, .null, .null, .null, .null, .null]))] s.heap.size = A at hD ⊢
  have hA : ∀ q : Nat, s.heap.size ≤ q → A q := fun q h => by rw [← hAe]; exact Or.inr h
  have hS : va_S A s.heap s.heap [] := va_S.rf
  have hl := lv_entry ([.ref h0, .ref p1]) (n := 2) (Nat.le_of_ble_eq_true rfl)
  rw [lg_entry_eq]
  generalize (lg_sl ([.ref h0, .ref p1]) ++ List.replicate (2 - (lg_sl ([.ref h0, .ref p1])).length) Slot.unset).toArray = ls at hl ⊢
  have hl : lv_has ls 2 [(0, .ref h0), (1, .ref p1)] := hl
  refine lv_aload_n hx hb dX6_init_0 rfl (lv_at hl 0 rfl) ?_
  refine W.objInit hx hb hown (hts (.methodLink RX6 3 objectInit) kw_85) (hts (.instanceMethod objectInit) kw_11) (hts _ kw_12) rfl (by rw [hml]; exact hl.1) rfl dX6_init_1 (Nat.le_of_ble_eq_true rfl) (Nat.le_of_ble_eq_true rfl) ?_
  refine W.eq (g2 := F0 m 4 ls []) rfl ?_
  refine lv_aload_n hx hb dX6_init_4 rfl (lv_at hl 0 rfl) ?_
  refine va_new (ci := 5) (fs := [.int 0, .int 0, .null, .null, .null, .int 0]) (C := RX5) (T := TX5) (N := 6) hx hb hts inlX5 tyX5 tyX5_ok hown (hts _ kw_86) (hts (.instantiable RX5 6) kw_26) (hts (.initialized RX5) kw_27) hK hP hD hS hA rfl (fun j hj => match j, hj with | 0, _ => rfl | 1, _ => rfl | 2, _ => rfl | 3, _ => rfl | 4, _ => rfl | 5, _ => rfl) (by decide) (by decide) dX6_init_5 (fun q5 H hP hD hS => ?_)
  have hP : va_P D vwCl [(h0, .inr (6, [.null, .null, .null, .null, .null, .null, .null, .null])), (q5, .inr (5, [.int 0, .int 0, .null, .null, .null, .int 0]))] H := hP
  have hD : va_D A [(h0, .inr (6, [.null, .null, .null, .null, .null, .null, .null, .null])), (q5, .inr (5, [.int 0, .int 0, .null, .null, .null, .int 0]))] := hD
  refine W.widen (k := 1) (n := 6) (by omega) (by omega) ?_
  refine lv_dup hx hb dX6_init_8 rfl ?_
  have hPc := hP.sub (ws' := [(q5, .inr (5, [.int 0, .int 0, .null, .null, .null, .int 0]))]) [1] rfl
  have hFc := va_free (wc := [(q5, .inr (5, [.int 0, .int 0, .null, .null, .null, .int 0]))]) hD hS hA [1] rfl
  refine va_callv (va_runIN (As := []) (rest := [.ref q5, .ref h0]) ⟨hx, hb, hml, hown, hts⟩ (kc_X5 l D C q5 H.size) ⟨va_cnB 0 hts (gd_I kw_77) rfl rfl rfl (hN.2.2.1) (hts (.initialized RX5) kw_27) (by decide +kernel) ⟨Nat.le_of_ble_eq_true rfl, Nat.le_of_ble_eq_true rfl⟩, rfl, hts (.instanceMethod yX5_init) kw_76⟩ ⟨fun a U g mk q => by obtain ⟨q0, q1, qP, qK, qN⟩ := q; exact ⟨q0, q1, qP, va_K.moved (u := U) (U := U.calling g mk a) (Vm.Alike.refl U.vm) qK, qN.calling g mk a⟩, fun U hU hW => ⟨rfl, by rw [hU], by rw [hU]; exact hPc, va_K.moved hW.alike hK, hN.warm hW⟩⟩ rfl rfl hl.1 rfl (lv_room (Nat.le_of_ble_eq_true rfl)) dX6_init_9 ⟨by decide, by decide⟩) hS (fun q _ h => hFc q h) hFc (fun u t H1 locs ht hvm hw hB hz1 hk1 hS => ?_)
  obtain ⟨q7_9, q15_9, q23_9, hP1, hD1⟩ := hB
  rw [ht] at hP1
  obtain ⟨hP, hD⟩ := va_join (wr := [(h0, .inr (6, [.null, .null, .null, .null, .null, .null, .null, .null]))]) (w1 := [(q5, .inr (5, [.int 0, .int 0, .ref q7_9, .ref q15_9, .ref q23_9, .int 0])), (q7_9, .inl (C 1, 40, .inl (fun _ => 0))), (q15_9, .inl (C 1, 40, .inl (fun _ => 0))), (q23_9, .inl (C 1, 40, .inl (fun _ => 0)))]) hP hD [1] [0] rfl rfl (by decide) (by decide) hk1 hFc hP1 hD1
  generalize H1 = H at hP hS ⊢
  have hP : va_P D vwCl [(h0, .inr (6, [.null, .null, .null, .null, .null, .null, .null, .null])), (q5, .inr (5, [.int 0, .int 0, .ref q7_9, .ref q15_9, .ref q23_9, .int 0])), (q7_9, .inl (C 1, 40, .inl (fun _ => 0))), (q15_9, .inl (C 1, 40, .inl (fun _ => 0))), (q23_9, .inl (C 1, 40, .inl (fun _ => 0)))] H := hP
  have hD : va_D A [(h0, .inr (6, [.null, .null, .null, .null, .null, .null, .null, .null])), (q5, .inr (5, [.int 0, .int 0, .ref q7_9, .ref q15_9, .ref q23_9, .int 0])), (q7_9, .inl (C 1, 40, .inl (fun _ => 0))), (q15_9, .inl (C 1, 40, .inl (fun _ => 0))), (q23_9, .inl (C 1, 40, .inl (fun _ => 0)))] := hD
  refine W.widen (k := 4) (n := 126) (by omega) (by omega) ?_
  refine va_putF (D := D) (ci := 6) (v := .ref q5) (ty := (.object "DrumCoder$Program")) (C := RX6) (T := TX6) (N := 8) hx hb hts inlX6 tyX6 tyX6_ok nmX6 hown hK hP hD hS 0 rfl rfl 1 (by decide) (hts _ kw_87) (fun _ h9 => h9) rfl hin rfl (by decide +kernel) rfl rfl (Nat.le_of_ble_eq_true rfl) dX6_init_12 (fun H locs hP hD hS => ?_)
  have hP : va_P D vwCl [(h0, .inr (6, [.null, .ref q5, .null, .null, .null, .null, .null, .null])), (q5, .inr (5, [.int 0, .int 0, .ref q7_9, .ref q15_9, .ref q23_9, .int 0])), (q7_9, .inl (C 1, 40, .inl (fun _ => 0))), (q15_9, .inl (C 1, 40, .inl (fun _ => 0))), (q23_9, .inl (C 1, 40, .inl (fun _ => 0)))] H := hP
  have hD : va_D A [(h0, .inr (6, [.null, .ref q5, .null, .null, .null, .null, .null, .null])), (q5, .inr (5, [.int 0, .int 0, .ref q7_9, .ref q15_9, .ref q23_9, .int 0])), (q7_9, .inl (C 1, 40, .inl (fun _ => 0))), (q15_9, .inl (C 1, 40, .inl (fun _ => 0))), (q23_9, .inl (C 1, 40, .inl (fun _ => 0)))] := hD
  refine lv_aload_n hx hb dX6_init_15 rfl (lv_at hl 0 rfl) ?_
  refine lv_bipush (v := 40) hx hb dX6_init_16 (by decide) ?_
  refine va_newa (atype := .int) (ty := .int) (N' := 40) (n := 40) (a0 := (40, .inl (fun _ => 0))) hx hb (hts (.arrayClass .int) kw_63) rfl hK hP hD hS hA (nw_int 40) (by decide) (by decide) (show 40 * 4 ≤ 536870912 by omega) (by decide) (by decide) dX6_init_18 (fun q18 cA H hK9 hP hD hS => ?_)
  obtain rfl : cA = C 1 := nk_int hK9
  have hP : va_P D vwCl [(h0, .inr (6, [.null, .ref q5, .null, .null, .null, .null, .null, .null])), (q5, .inr (5, [.int 0, .int 0, .ref q7_9, .ref q15_9, .ref q23_9, .int 0])), (q7_9, .inl (C 1, 40, .inl (fun _ => 0))), (q15_9, .inl (C 1, 40, .inl (fun _ => 0))), (q23_9, .inl (C 1, 40, .inl (fun _ => 0))), (q18, .inl (C 1, 40, .inl (fun _ => 0)))] H := hP
  have hD : va_D A [(h0, .inr (6, [.null, .ref q5, .null, .null, .null, .null, .null, .null])), (q5, .inr (5, [.int 0, .int 0, .ref q7_9, .ref q15_9, .ref q23_9, .int 0])), (q7_9, .inl (C 1, 40, .inl (fun _ => 0))), (q15_9, .inl (C 1, 40, .inl (fun _ => 0))), (q23_9, .inl (C 1, 40, .inl (fun _ => 0))), (q18, .inl (C 1, 40, .inl (fun _ => 0)))] := hD
  refine W.widen (k := 5) (n := 166) (by omega) (by omega) ?_
  refine va_putF (D := D) (ci := 6) (v := .ref q18) (ty := (.array .int)) (C := RX6) (T := TX6) (N := 8) hx hb hts inlX6 tyX6 tyX6_ok nmX6 hown hK hP hD hS 0 rfl rfl 2 (by decide) (hts _ kw_88) (fun _ h9 => h9) rfl hin rfl (by decide +kernel) rfl rfl (Nat.le_of_ble_eq_true rfl) dX6_init_20 (fun H locs hP hD hS => ?_)
  have hP : va_P D vwCl [(h0, .inr (6, [.null, .ref q5, .ref q18, .null, .null, .null, .null, .null])), (q5, .inr (5, [.int 0, .int 0, .ref q7_9, .ref q15_9, .ref q23_9, .int 0])), (q7_9, .inl (C 1, 40, .inl (fun _ => 0))), (q15_9, .inl (C 1, 40, .inl (fun _ => 0))), (q23_9, .inl (C 1, 40, .inl (fun _ => 0))), (q18, .inl (C 1, 40, .inl (fun _ => 0)))] H := hP
  have hD : va_D A [(h0, .inr (6, [.null, .ref q5, .ref q18, .null, .null, .null, .null, .null])), (q5, .inr (5, [.int 0, .int 0, .ref q7_9, .ref q15_9, .ref q23_9, .int 0])), (q7_9, .inl (C 1, 40, .inl (fun _ => 0))), (q15_9, .inl (C 1, 40, .inl (fun _ => 0))), (q23_9, .inl (C 1, 40, .inl (fun _ => 0))), (q18, .inl (C 1, 40, .inl (fun _ => 0)))] := hD
  refine lv_aload_n hx hb dX6_init_23 rfl (lv_at hl 0 rfl) ?_
  refine lv_bipush (v := 40) hx hb dX6_init_24 (by decide) ?_
  refine va_newa (atype := .int) (ty := .int) (N' := 40) (n := 40) (a0 := (40, .inl (fun _ => 0))) hx hb (hts (.arrayClass .int) kw_63) rfl hK hP hD hS hA (nw_int 40) (by decide) (by decide) (show 40 * 4 ≤ 536870912 by omega) (by decide) (by decide) dX6_init_26 (fun q26 cA H hK9 hP hD hS => ?_)
  obtain rfl : cA = C 1 := nk_int hK9
  have hP : va_P D vwCl [(h0, .inr (6, [.null, .ref q5, .ref q18, .null, .null, .null, .null, .null])), (q5, .inr (5, [.int 0, .int 0, .ref q7_9, .ref q15_9, .ref q23_9, .int 0])), (q7_9, .inl (C 1, 40, .inl (fun _ => 0))), (q15_9, .inl (C 1, 40, .inl (fun _ => 0))), (q23_9, .inl (C 1, 40, .inl (fun _ => 0))), (q18, .inl (C 1, 40, .inl (fun _ => 0))), (q26, .inl (C 1, 40, .inl (fun _ => 0)))] H := hP
  have hD : va_D A [(h0, .inr (6, [.null, .ref q5, .ref q18, .null, .null, .null, .null, .null])), (q5, .inr (5, [.int 0, .int 0, .ref q7_9, .ref q15_9, .ref q23_9, .int 0])), (q7_9, .inl (C 1, 40, .inl (fun _ => 0))), (q15_9, .inl (C 1, 40, .inl (fun _ => 0))), (q23_9, .inl (C 1, 40, .inl (fun _ => 0))), (q18, .inl (C 1, 40, .inl (fun _ => 0))), (q26, .inl (C 1, 40, .inl (fun _ => 0)))] := hD
  refine W.widen (k := 6) (n := 206) (by omega) (by omega) ?_
  refine va_putF (D := D) (ci := 6) (v := .ref q26) (ty := (.array .int)) (C := RX6) (T := TX6) (N := 8) hx hb hts inlX6 tyX6 tyX6_ok nmX6 hown hK hP hD hS 0 rfl rfl 3 (by decide) (hts _ kw_89) (fun _ h9 => h9) rfl hin rfl (by decide +kernel) rfl rfl (Nat.le_of_ble_eq_true rfl) dX6_init_28 (fun H locs hP hD hS => ?_)
  have hP : va_P D vwCl [(h0, .inr (6, [.null, .ref q5, .ref q18, .ref q26, .null, .null, .null, .null])), (q5, .inr (5, [.int 0, .int 0, .ref q7_9, .ref q15_9, .ref q23_9, .int 0])), (q7_9, .inl (C 1, 40, .inl (fun _ => 0))), (q15_9, .inl (C 1, 40, .inl (fun _ => 0))), (q23_9, .inl (C 1, 40, .inl (fun _ => 0))), (q18, .inl (C 1, 40, .inl (fun _ => 0))), (q26, .inl (C 1, 40, .inl (fun _ => 0)))] H := hP
  have hD : va_D A [(h0, .inr (6, [.null, .ref q5, .ref q18, .ref q26, .null, .null, .null, .null])), (q5, .inr (5, [.int 0, .int 0, .ref q7_9, .ref q15_9, .ref q23_9, .int 0])), (q7_9, .inl (C 1, 40, .inl (fun _ => 0))), (q15_9, .inl (C 1, 40, .inl (fun _ => 0))), (q23_9, .inl (C 1, 40, .inl (fun _ => 0))), (q18, .inl (C 1, 40, .inl (fun _ => 0))), (q26, .inl (C 1, 40, .inl (fun _ => 0)))] := hD
  refine lv_aload_n hx hb dX6_init_31 rfl (lv_at hl 0 rfl) ?_
  refine lv_bipush (v := 40) hx hb dX6_init_32 (by decide) ?_
  refine va_newa (atype := .int) (ty := .int) (N' := 40) (n := 40) (a0 := (40, .inl (fun _ => 0))) hx hb (hts (.arrayClass .int) kw_63) rfl hK hP hD hS hA (nw_int 40) (by decide) (by decide) (show 40 * 4 ≤ 536870912 by omega) (by decide) (by decide) dX6_init_34 (fun q34 cA H hK9 hP hD hS => ?_)
  obtain rfl : cA = C 1 := nk_int hK9
  have hP : va_P D vwCl [(h0, .inr (6, [.null, .ref q5, .ref q18, .ref q26, .null, .null, .null, .null])), (q5, .inr (5, [.int 0, .int 0, .ref q7_9, .ref q15_9, .ref q23_9, .int 0])), (q7_9, .inl (C 1, 40, .inl (fun _ => 0))), (q15_9, .inl (C 1, 40, .inl (fun _ => 0))), (q23_9, .inl (C 1, 40, .inl (fun _ => 0))), (q18, .inl (C 1, 40, .inl (fun _ => 0))), (q26, .inl (C 1, 40, .inl (fun _ => 0))), (q34, .inl (C 1, 40, .inl (fun _ => 0)))] H := hP
  have hD : va_D A [(h0, .inr (6, [.null, .ref q5, .ref q18, .ref q26, .null, .null, .null, .null])), (q5, .inr (5, [.int 0, .int 0, .ref q7_9, .ref q15_9, .ref q23_9, .int 0])), (q7_9, .inl (C 1, 40, .inl (fun _ => 0))), (q15_9, .inl (C 1, 40, .inl (fun _ => 0))), (q23_9, .inl (C 1, 40, .inl (fun _ => 0))), (q18, .inl (C 1, 40, .inl (fun _ => 0))), (q26, .inl (C 1, 40, .inl (fun _ => 0))), (q34, .inl (C 1, 40, .inl (fun _ => 0)))] := hD
  refine W.widen (k := 7) (n := 246) (by omega) (by omega) ?_
  refine va_putF (D := D) (ci := 6) (v := .ref q34) (ty := (.array .int)) (C := RX6) (T := TX6) (N := 8) hx hb hts inlX6 tyX6 tyX6_ok nmX6 hown hK hP hD hS 0 rfl rfl 4 (by decide) (hts _ kw_90) (fun _ h9 => h9) rfl hin rfl (by decide +kernel) rfl rfl (Nat.le_of_ble_eq_true rfl) dX6_init_36 (fun H locs hP hD hS => ?_)
  have hP : va_P D vwCl [(h0, .inr (6, [.null, .ref q5, .ref q18, .ref q26, .ref q34, .null, .null, .null])), (q5, .inr (5, [.int 0, .int 0, .ref q7_9, .ref q15_9, .ref q23_9, .int 0])), (q7_9, .inl (C 1, 40, .inl (fun _ => 0))), (q15_9, .inl (C 1, 40, .inl (fun _ => 0))), (q23_9, .inl (C 1, 40, .inl (fun _ => 0))), (q18, .inl (C 1, 40, .inl (fun _ => 0))), (q26, .inl (C 1, 40, .inl (fun _ => 0))), (q34, .inl (C 1, 40, .inl (fun _ => 0)))] H := hP
  have hD : va_D A [(h0, .inr (6, [.null, .ref q5, .ref q18, .ref q26, .ref q34, .null, .null, .null])), (q5, .inr (5, [.int 0, .int 0, .ref q7_9, .ref q15_9, .ref q23_9, .int 0])), (q7_9, .inl (C 1, 40, .inl (fun _ => 0))), (q15_9, .inl (C 1, 40, .inl (fun _ => 0))), (q23_9, .inl (C 1, 40, .inl (fun _ => 0))), (q18, .inl (C 1, 40, .inl (fun _ => 0))), (q26, .inl (C 1, 40, .inl (fun _ => 0))), (q34, .inl (C 1, 40, .inl (fun _ => 0)))] := hD
  refine lv_aload_n hx hb dX6_init_39 rfl (lv_at hl 0 rfl) ?_
  refine lv_bipush (v := 40) hx hb dX6_init_40 (by decide) ?_
  refine va_newa (atype := .int) (ty := .int) (N' := 40) (n := 40) (a0 := (40, .inl (fun _ => 0))) hx hb (hts (.arrayClass .int) kw_63) rfl hK hP hD hS hA (nw_int 40) (by decide) (by decide) (show 40 * 4 ≤ 536870912 by omega) (by decide) (by decide) dX6_init_42 (fun q42 cA H hK9 hP hD hS => ?_)
  obtain rfl : cA = C 1 := nk_int hK9
  have hP : va_P D vwCl [(h0, .inr (6, [.null, .ref q5, .ref q18, .ref q26, .ref q34, .null, .null, .null])), (q5, .inr (5, [.int 0, .int 0, .ref q7_9, .ref q15_9, .ref q23_9, .int 0])), (q7_9, .inl (C 1, 40, .inl (fun _ => 0))), (q15_9, .inl (C 1, 40, .inl (fun _ => 0))), (q23_9, .inl (C 1, 40, .inl (fun _ => 0))), (q18, .inl (C 1, 40, .inl (fun _ => 0))), (q26, .inl (C 1, 40, .inl (fun _ => 0))), (q34, .inl (C 1, 40, .inl (fun _ => 0))), (q42, .inl (C 1, 40, .inl (fun _ => 0)))] H := hP
  have hD : va_D A [(h0, .inr (6, [.null, .ref q5, .ref q18, .ref q26, .ref q34, .null, .null, .null])), (q5, .inr (5, [.int 0, .int 0, .ref q7_9, .ref q15_9, .ref q23_9, .int 0])), (q7_9, .inl (C 1, 40, .inl (fun _ => 0))), (q15_9, .inl (C 1, 40, .inl (fun _ => 0))), (q23_9, .inl (C 1, 40, .inl (fun _ => 0))), (q18, .inl (C 1, 40, .inl (fun _ => 0))), (q26, .inl (C 1, 40, .inl (fun _ => 0))), (q34, .inl (C 1, 40, .inl (fun _ => 0))), (q42, .inl (C 1, 40, .inl (fun _ => 0)))] := hD
  refine W.widen (k := 8) (n := 286) (by omega) (by omega) ?_
  refine va_putF (D := D) (ci := 6) (v := .ref q42) (ty := (.array .int)) (C := RX6) (T := TX6) (N := 8) hx hb hts inlX6 tyX6 tyX6_ok nmX6 hown hK hP hD hS 0 rfl rfl 5 (by decide) (hts _ kw_91) (fun _ h9 => h9) rfl hin rfl (by decide +kernel) rfl rfl (Nat.le_of_ble_eq_true rfl) dX6_init_44 (fun H locs hP hD hS => ?_)
  have hP : va_P D vwCl [(h0, .inr (6, [.null, .ref q5, .ref q18, .ref q26, .ref q34, .ref q42, .null, .null])), (q5, .inr (5, [.int 0, .int 0, .ref q7_9, .ref q15_9, .ref q23_9, .int 0])), (q7_9, .inl (C 1, 40, .inl (fun _ => 0))), (q15_9, .inl (C 1, 40, .inl (fun _ => 0))), (q23_9, .inl (C 1, 40, .inl (fun _ => 0))), (q18, .inl (C 1, 40, .inl (fun _ => 0))), (q26, .inl (C 1, 40, .inl (fun _ => 0))), (q34, .inl (C 1, 40, .inl (fun _ => 0))), (q42, .inl (C 1, 40, .inl (fun _ => 0)))] H := hP
  have hD : va_D A [(h0, .inr (6, [.null, .ref q5, .ref q18, .ref q26, .ref q34, .ref q42, .null, .null])), (q5, .inr (5, [.int 0, .int 0, .ref q7_9, .ref q15_9, .ref q23_9, .int 0])), (q7_9, .inl (C 1, 40, .inl (fun _ => 0))), (q15_9, .inl (C 1, 40, .inl (fun _ => 0))), (q23_9, .inl (C 1, 40, .inl (fun _ => 0))), (q18, .inl (C 1, 40, .inl (fun _ => 0))), (q26, .inl (C 1, 40, .inl (fun _ => 0))), (q34, .inl (C 1, 40, .inl (fun _ => 0))), (q42, .inl (C 1, 40, .inl (fun _ => 0)))] := hD
  refine lv_aload_n hx hb dX6_init_47 rfl (lv_at hl 0 rfl) ?_
  refine lv_bipush (v := 40) hx hb dX6_init_48 (by decide) ?_
  refine va_newa (atype := .int) (ty := .int) (N' := 40) (n := 40) (a0 := (40, .inl (fun _ => 0))) hx hb (hts (.arrayClass .int) kw_63) rfl hK hP hD hS hA (nw_int 40) (by decide) (by decide) (show 40 * 4 ≤ 536870912 by omega) (by decide) (by decide) dX6_init_50 (fun q50 cA H hK9 hP hD hS => ?_)
  obtain rfl : cA = C 1 := nk_int hK9
  have hP : va_P D vwCl [(h0, .inr (6, [.null, .ref q5, .ref q18, .ref q26, .ref q34, .ref q42, .null, .null])), (q5, .inr (5, [.int 0, .int 0, .ref q7_9, .ref q15_9, .ref q23_9, .int 0])), (q7_9, .inl (C 1, 40, .inl (fun _ => 0))), (q15_9, .inl (C 1, 40, .inl (fun _ => 0))), (q23_9, .inl (C 1, 40, .inl (fun _ => 0))), (q18, .inl (C 1, 40, .inl (fun _ => 0))), (q26, .inl (C 1, 40, .inl (fun _ => 0))), (q34, .inl (C 1, 40, .inl (fun _ => 0))), (q42, .inl (C 1, 40, .inl (fun _ => 0))), (q50, .inl (C 1, 40, .inl (fun _ => 0)))] H := hP
  have hD : va_D A [(h0, .inr (6, [.null, .ref q5, .ref q18, .ref q26, .ref q34, .ref q42, .null, .null])), (q5, .inr (5, [.int 0, .int 0, .ref q7_9, .ref q15_9, .ref q23_9, .int 0])), (q7_9, .inl (C 1, 40, .inl (fun _ => 0))), (q15_9, .inl (C 1, 40, .inl (fun _ => 0))), (q23_9, .inl (C 1, 40, .inl (fun _ => 0))), (q18, .inl (C 1, 40, .inl (fun _ => 0))), (q26, .inl (C 1, 40, .inl (fun _ => 0))), (q34, .inl (C 1, 40, .inl (fun _ => 0))), (q42, .inl (C 1, 40, .inl (fun _ => 0))), (q50, .inl (C 1, 40, .inl (fun _ => 0)))] := hD
  refine W.widen (k := 9) (n := 326) (by omega) (by omega) ?_
  refine va_putF (D := D) (ci := 6) (v := .ref q50) (ty := (.array .int)) (C := RX6) (T := TX6) (N := 8) hx hb hts inlX6 tyX6 tyX6_ok nmX6 hown hK hP hD hS 0 rfl rfl 6 (by decide) (hts _ kw_92) (fun _ h9 => h9) rfl hin rfl (by decide +kernel) rfl rfl (Nat.le_of_ble_eq_true rfl) dX6_init_52 (fun H locs hP hD hS => ?_)
  have hP : va_P D vwCl [(h0, .inr (6, [.null, .ref q5, .ref q18, .ref q26, .ref q34, .ref q42, .ref q50, .null])), (q5, .inr (5, [.int 0, .int 0, .ref q7_9, .ref q15_9, .ref q23_9, .int 0])), (q7_9, .inl (C 1, 40, .inl (fun _ => 0))), (q15_9, .inl (C 1, 40, .inl (fun _ => 0))), (q23_9, .inl (C 1, 40, .inl (fun _ => 0))), (q18, .inl (C 1, 40, .inl (fun _ => 0))), (q26, .inl (C 1, 40, .inl (fun _ => 0))), (q34, .inl (C 1, 40, .inl (fun _ => 0))), (q42, .inl (C 1, 40, .inl (fun _ => 0))), (q50, .inl (C 1, 40, .inl (fun _ => 0)))] H := hP
  have hD : va_D A [(h0, .inr (6, [.null, .ref q5, .ref q18, .ref q26, .ref q34, .ref q42, .ref q50, .null])), (q5, .inr (5, [.int 0, .int 0, .ref q7_9, .ref q15_9, .ref q23_9, .int 0])), (q7_9, .inl (C 1, 40, .inl (fun _ => 0))), (q15_9, .inl (C 1, 40, .inl (fun _ => 0))), (q23_9, .inl (C 1, 40, .inl (fun _ => 0))), (q18, .inl (C 1, 40, .inl (fun _ => 0))), (q26, .inl (C 1, 40, .inl (fun _ => 0))), (q34, .inl (C 1, 40, .inl (fun _ => 0))), (q42, .inl (C 1, 40, .inl (fun _ => 0))), (q50, .inl (C 1, 40, .inl (fun _ => 0)))] := hD
  refine lv_aload_n hx hb dX6_init_55 rfl (lv_at hl 0 rfl) ?_
  refine lv_bipush (v := 40) hx hb dX6_init_56 (by decide) ?_
  refine va_newa (atype := .int) (ty := .int) (N' := 40) (n := 40) (a0 := (40, .inl (fun _ => 0))) hx hb (hts (.arrayClass .int) kw_63) rfl hK hP hD hS hA (nw_int 40) (by decide) (by decide) (show 40 * 4 ≤ 536870912 by omega) (by decide) (by decide) dX6_init_58 (fun q58 cA H hK9 hP hD hS => ?_)
  obtain rfl : cA = C 1 := nk_int hK9
  have hP : va_P D vwCl [(h0, .inr (6, [.null, .ref q5, .ref q18, .ref q26, .ref q34, .ref q42, .ref q50, .null])), (q5, .inr (5, [.int 0, .int 0, .ref q7_9, .ref q15_9, .ref q23_9, .int 0])), (q7_9, .inl (C 1, 40, .inl (fun _ => 0))), (q15_9, .inl (C 1, 40, .inl (fun _ => 0))), (q23_9, .inl (C 1, 40, .inl (fun _ => 0))), (q18, .inl (C 1, 40, .inl (fun _ => 0))), (q26, .inl (C 1, 40, .inl (fun _ => 0))), (q34, .inl (C 1, 40, .inl (fun _ => 0))), (q42, .inl (C 1, 40, .inl (fun _ => 0))), (q50, .inl (C 1, 40, .inl (fun _ => 0))), (q58, .inl (C 1, 40, .inl (fun _ => 0)))] H := hP
  have hD : va_D A [(h0, .inr (6, [.null, .ref q5, .ref q18, .ref q26, .ref q34, .ref q42, .ref q50, .null])), (q5, .inr (5, [.int 0, .int 0, .ref q7_9, .ref q15_9, .ref q23_9, .int 0])), (q7_9, .inl (C 1, 40, .inl (fun _ => 0))), (q15_9, .inl (C 1, 40, .inl (fun _ => 0))), (q23_9, .inl (C 1, 40, .inl (fun _ => 0))), (q18, .inl (C 1, 40, .inl (fun _ => 0))), (q26, .inl (C 1, 40, .inl (fun _ => 0))), (q34, .inl (C 1, 40, .inl (fun _ => 0))), (q42, .inl (C 1, 40, .inl (fun _ => 0))), (q50, .inl (C 1, 40, .inl (fun _ => 0))), (q58, .inl (C 1, 40, .inl (fun _ => 0)))] := hD
  refine W.widen (k := 10) (n := 366) (by omega) (by omega) ?_
  refine va_putF (D := D) (ci := 6) (v := .ref q58) (ty := (.array .int)) (C := RX6) (T := TX6) (N := 8) hx hb hts inlX6 tyX6 tyX6_ok nmX6 hown hK hP hD hS 0 rfl rfl 7 (by decide) (hts _ kw_93) (fun _ h9 => h9) rfl hin rfl (by decide +kernel) rfl rfl (Nat.le_of_ble_eq_true rfl) dX6_init_60 (fun H locs hP hD hS => ?_)
  have hP : va_P D vwCl [(h0, .inr (6, [.null, .ref q5, .ref q18, .ref q26, .ref q34, .ref q42, .ref q50, .ref q58])), (q5, .inr (5, [.int 0, .int 0, .ref q7_9, .ref q15_9, .ref q23_9, .int 0])), (q7_9, .inl (C 1, 40, .inl (fun _ => 0))), (q15_9, .inl (C 1, 40, .inl (fun _ => 0))), (q23_9, .inl (C 1, 40, .inl (fun _ => 0))), (q18, .inl (C 1, 40, .inl (fun _ => 0))), (q26, .inl (C 1, 40, .inl (fun _ => 0))), (q34, .inl (C 1, 40, .inl (fun _ => 0))), (q42, .inl (C 1, 40, .inl (fun _ => 0))), (q50, .inl (C 1, 40, .inl (fun _ => 0))), (q58, .inl (C 1, 40, .inl (fun _ => 0)))] H := hP
  have hD : va_D A [(h0, .inr (6, [.null, .ref q5, .ref q18, .ref q26, .ref q34, .ref q42, .ref q50, .ref q58])), (q5, .inr (5, [.int 0, .int 0, .ref q7_9, .ref q15_9, .ref q23_9, .int 0])), (q7_9, .inl (C 1, 40, .inl (fun _ => 0))), (q15_9, .inl (C 1, 40, .inl (fun _ => 0))), (q23_9, .inl (C 1, 40, .inl (fun _ => 0))), (q18, .inl (C 1, 40, .inl (fun _ => 0))), (q26, .inl (C 1, 40, .inl (fun _ => 0))), (q34, .inl (C 1, 40, .inl (fun _ => 0))), (q42, .inl (C 1, 40, .inl (fun _ => 0))), (q50, .inl (C 1, 40, .inl (fun _ => 0))), (q58, .inl (C 1, 40, .inl (fun _ => 0)))] := hD
  refine lv_aload_n hx hb dX6_init_63 rfl (lv_at hl 0 rfl) ?_
  refine lv_aload_n hx hb dX6_init_64 rfl (lv_at hl 1 rfl) ?_
  refine va_putF (D := D) (ci := 6) (v := .ref p1) (ty := (.object "DrumCoder$Tape")) (C := RX6) (T := TX6) (N := 8) hx hb hts inlX6 tyX6 tyX6_ok nmX6 hown hK hP hD hS 0 rfl rfl 0 (by decide) (hts _ kw_94) (fun _ h9 => h9) rfl hin rfl (by decide +kernel) rfl rfl (Nat.le_of_ble_eq_true rfl) dX6_init_65 (fun H locs hP hD hS => ?_)
  have hP : va_P D vwCl [(h0, .inr (6, [.ref p1, .ref q5, .ref q18, .ref q26, .ref q34, .ref q42, .ref q50, .ref q58])), (q5, .inr (5, [.int 0, .int 0, .ref q7_9, .ref q15_9, .ref q23_9, .int 0])), (q7_9, .inl (C 1, 40, .inl (fun _ => 0))), (q15_9, .inl (C 1, 40, .inl (fun _ => 0))), (q23_9, .inl (C 1, 40, .inl (fun _ => 0))), (q18, .inl (C 1, 40, .inl (fun _ => 0))), (q26, .inl (C 1, 40, .inl (fun _ => 0))), (q34, .inl (C 1, 40, .inl (fun _ => 0))), (q42, .inl (C 1, 40, .inl (fun _ => 0))), (q50, .inl (C 1, 40, .inl (fun _ => 0))), (q58, .inl (C 1, 40, .inl (fun _ => 0)))] H := hP
  have hD : va_D A [(h0, .inr (6, [.ref p1, .ref q5, .ref q18, .ref q26, .ref q34, .ref q42, .ref q50, .ref q58])), (q5, .inr (5, [.int 0, .int 0, .ref q7_9, .ref q15_9, .ref q23_9, .int 0])), (q7_9, .inl (C 1, 40, .inl (fun _ => 0))), (q15_9, .inl (C 1, 40, .inl (fun _ => 0))), (q23_9, .inl (C 1, 40, .inl (fun _ => 0))), (q18, .inl (C 1, 40, .inl (fun _ => 0))), (q26, .inl (C 1, 40, .inl (fun _ => 0))), (q34, .inl (C 1, 40, .inl (fun _ => 0))), (q42, .inl (C 1, 40, .inl (fun _ => 0))), (q50, .inl (C 1, 40, .inl (fun _ => 0))), (q58, .inl (C 1, 40, .inl (fun _ => 0)))] := hD
  exact W.vret hx hb hr (fun t ht hW => ⟨⟨(), rfl, trivial, q5, q7_9, q15_9, q23_9, q18, q26, q34, q42, q50, q58, by rw [ht]; exact hP, hD⟩, hS.F ht⟩) hS.2.2 dX6_init_68
abbrev rk_X0 : Room := { frames := 1, cells := 3, slots := 2140, locals := 12 }
set_option maxHeartbeats 4000000 in
set_option maxRecDepth 100000 in
theorem kc_X0 (l : Launch) (D : va_G) (C : Nat → ClassId) (h0  : Nat) (sz : Nat) : Met l yX0_init (Cond.code yX0_init cX0_init 1 none :: wsL_law) rk_X0 (va_Pc [.ref h0] (fun U => U.heap.size = sz ∧ va_P D vwCl [(h0, .inr (0, [.null, .null, .null, .int 0, .int 0, .int 0, .int 0, .int 0]))] U.heap ∧ va_K D vwCl (tyL C) U ∧ NX U)) (va_Qv (fun _ : Unit => True) (fun _ t => ∃ (q8 : Nat) (q16 : Nat) (q24 : Nat), va_P D vwCl [(h0, .inr (0, [.ref q8, .ref q16, .ref q24, .int 0, .int 0, .int 0, .int 0, .int 0])), (q8, .inl (C 1, 2000, .inl (fun _ => 0))), (q16, .inl (C 1, 40, .inl (fun _ => 0))), (q24, .inl (C 1, 100, .inl (fun _ => 0)))] t.heap ∧ va_D (va_A [(h0, .inr (0, [.null, .null, .null, .int 0, .int 0, .int 0, .int 0, .int 0]))] sz) [(h0, .inr (0, [.ref q8, .ref q16, .ref q24, .int 0, .int 0, .int 0, .int 0, .int 0])), (q8, .inl (C 1, 2000, .inl (fun _ => 0))), (q16, .inl (C 1, 40, .inl (fun _ => 0))), (q24, .inl (C 1, 100, .inl (fun _ => 0)))]) (va_A [(h0, .inr (0, [.null, .null, .null, .int 0, .int 0, .int 0, .int 0, .int 0]))] sz)) 3 2140 (va_A [(h0, .inr (0, [.null, .null, .null, .int 0, .int 0, .int 0, .int 0, .int 0]))] sz) := by
  refine Met.ofW (cc := cX0_init) (maxL := 1) (ret := none) (by decide) rfl ?_
  intro p e s m args below meth c s₁ B hml hv
  obtain ⟨rfl, hsz, hP, hK, hN⟩ := hv
  have hx := B.exec
  have hb := B.bytes
  have hr := B.returns
  have hts := fun w h => atoms_spec (ws := Cond.code yX0_init cX0_init 1 none :: wsL_law) B.pre w (List.mem_cons_of_mem _ h)
  have hown : s.vm.findClass RX0 = some m.cls := findClass_of_methodNamed B.named
  have hin : meth.name = "<init>" := (name_of_methodNamed B.named B.method).1
  subst hsz
  have hD := (D_one (h0, .inr (0, [.null, .null, .null, .int 0, .int 0, .int 0, .int 0, .int 0]))).self (sz := s.heap.size)
  generalize hAe : va_A [(h0, .inr (0, [.null, .null, .null, .int 0, .int 0, .int 0, .int 0, .int 0]))] s.heap.size = A at hD ⊢
  have hA : ∀ q : Nat, s.heap.size ≤ q → A q := fun q h => by rw [← hAe]; exact Or.inr h
  have hS : va_S A s.heap s.heap [] := va_S.rf
  have hl := lv_entry ([.ref h0]) (n := 1) (Nat.le_of_ble_eq_true rfl)
  rw [lg_entry_eq]
  generalize (lg_sl ([.ref h0]) ++ List.replicate (1 - (lg_sl ([.ref h0])).length) Slot.unset).toArray = ls at hl ⊢
  have hl : lv_has ls 1 [(0, .ref h0)] := hl
  refine lv_aload_n hx hb dX0_init_0 rfl (lv_at hl 0 rfl) ?_
  refine W.objInit hx hb hown (hts (.methodLink RX0 3 objectInit) kw_115) (hts (.instanceMethod objectInit) kw_11) (hts _ kw_12) rfl (by rw [hml]; exact hl.1) rfl dX0_init_1 (Nat.le_of_ble_eq_true rfl) (Nat.le_of_ble_eq_true rfl) ?_
  refine W.eq (g2 := F0 m 4 ls []) rfl ?_
  refine lv_aload_n hx hb dX0_init_4 rfl (lv_at hl 0 rfl) ?_
  refine lv_sipush (v := 2000) hx hb dX0_init_5 (by decide) ?_
  refine va_newa (atype := .int) (ty := .int) (N' := 2000) (n := 2000) (a0 := (2000, .inl (fun _ => 0))) hx hb (hts (.arrayClass .int) kw_63) rfl hK hP hD hS hA (nw_int 2000) (by decide) (by decide) (show 2000 * 4 ≤ 536870912 by omega) (by decide) (by decide) dX0_init_8 (fun q8 cA H hK9 hP hD hS => ?_)
  obtain rfl : cA = C 1 := nk_int hK9
  have hP : va_P D vwCl [(h0, .inr (0, [.null, .null, .null, .int 0, .int 0, .int 0, .int 0, .int 0])), (q8, .inl (C 1, 2000, .inl (fun _ => 0)))] H := hP
  have hD : va_D A [(h0, .inr (0, [.null, .null, .null, .int 0, .int 0, .int 0, .int 0, .int 0])), (q8, .inl (C 1, 2000, .inl (fun _ => 0)))] := hD
  refine W.widen (k := 1) (n := 2000) (by omega) (by omega) ?_
  refine va_putF (D := D) (ci := 0) (v := .ref q8) (ty := (.array .int)) (C := RX0) (T := TX0) (N := 8) hx hb hts inlX0 tyX0 tyX0_ok nmX0 hown hK hP hD hS 0 rfl rfl 0 (by decide) (hts _ kw_116) (fun _ h9 => h9) rfl hin rfl (by decide +kernel) rfl rfl (Nat.le_of_ble_eq_true rfl) dX0_init_10 (fun H locs hP hD hS => ?_)
  have hP : va_P D vwCl [(h0, .inr (0, [.ref q8, .null, .null, .int 0, .int 0, .int 0, .int 0, .int 0])), (q8, .inl (C 1, 2000, .inl (fun _ => 0)))] H := hP
  have hD : va_D A [(h0, .inr (0, [.ref q8, .null, .null, .int 0, .int 0, .int 0, .int 0, .int 0])), (q8, .inl (C 1, 2000, .inl (fun _ => 0)))] := hD
  refine lv_aload_n hx hb dX0_init_13 rfl (lv_at hl 0 rfl) ?_
  refine lv_bipush (v := 40) hx hb dX0_init_14 (by decide) ?_
  refine va_newa (atype := .int) (ty := .int) (N' := 40) (n := 40) (a0 := (40, .inl (fun _ => 0))) hx hb (hts (.arrayClass .int) kw_63) rfl hK hP hD hS hA (nw_int 40) (by decide) (by decide) (show 40 * 4 ≤ 536870912 by omega) (by decide) (by decide) dX0_init_16 (fun q16 cA H hK9 hP hD hS => ?_)
  obtain rfl : cA = C 1 := nk_int hK9
  have hP : va_P D vwCl [(h0, .inr (0, [.ref q8, .null, .null, .int 0, .int 0, .int 0, .int 0, .int 0])), (q8, .inl (C 1, 2000, .inl (fun _ => 0))), (q16, .inl (C 1, 40, .inl (fun _ => 0)))] H := hP
  have hD : va_D A [(h0, .inr (0, [.ref q8, .null, .null, .int 0, .int 0, .int 0, .int 0, .int 0])), (q8, .inl (C 1, 2000, .inl (fun _ => 0))), (q16, .inl (C 1, 40, .inl (fun _ => 0)))] := hD
  refine W.widen (k := 2) (n := 2040) (by omega) (by omega) ?_
  refine va_putF (D := D) (ci := 0) (v := .ref q16) (ty := (.array .int)) (C := RX0) (T := TX0) (N := 8) hx hb hts inlX0 tyX0 tyX0_ok nmX0 hown hK hP hD hS 0 rfl rfl 1 (by decide) (hts _ kw_117) (fun _ h9 => h9) rfl hin rfl (by decide +kernel) rfl rfl (Nat.le_of_ble_eq_true rfl) dX0_init_18 (fun H locs hP hD hS => ?_)
  have hP : va_P D vwCl [(h0, .inr (0, [.ref q8, .ref q16, .null, .int 0, .int 0, .int 0, .int 0, .int 0])), (q8, .inl (C 1, 2000, .inl (fun _ => 0))), (q16, .inl (C 1, 40, .inl (fun _ => 0)))] H := hP
  have hD : va_D A [(h0, .inr (0, [.ref q8, .ref q16, .null, .int 0, .int 0, .int 0, .int 0, .int 0])), (q8, .inl (C 1, 2000, .inl (fun _ => 0))), (q16, .inl (C 1, 40, .inl (fun _ => 0)))] := hD
  refine lv_aload_n hx hb dX0_init_21 rfl (lv_at hl 0 rfl) ?_
  refine lv_bipush (v := 100) hx hb dX0_init_22 (by decide) ?_
  refine va_newa (atype := .int) (ty := .int) (N' := 100) (n := 100) (a0 := (100, .inl (fun _ => 0))) hx hb (hts (.arrayClass .int) kw_63) rfl hK hP hD hS hA (nw_int 100) (by decide) (by decide) (show 100 * 4 ≤ 536870912 by omega) (by decide) (by decide) dX0_init_24 (fun q24 cA H hK9 hP hD hS => ?_)
  obtain rfl : cA = C 1 := nk_int hK9
  have hP : va_P D vwCl [(h0, .inr (0, [.ref q8, .ref q16, .null, .int 0, .int 0, .int 0, .int 0, .int 0])), (q8, .inl (C 1, 2000, .inl (fun _ => 0))), (q16, .inl (C 1, 40, .inl (fun _ => 0))), (q24, .inl (C 1, 100, .inl (fun _ => 0)))] H := hP
  have hD : va_D A [(h0, .inr (0, [.ref q8, .ref q16, .null, .int 0, .int 0, .int 0, .int 0, .int 0])), (q8, .inl (C 1, 2000, .inl (fun _ => 0))), (q16, .inl (C 1, 40, .inl (fun _ => 0))), (q24, .inl (C 1, 100, .inl (fun _ => 0)))] := hD
  refine W.widen (k := 3) (n := 2140) (by omega) (by omega) ?_
  refine va_putF (D := D) (ci := 0) (v := .ref q24) (ty := (.array .int)) (C := RX0) (T := TX0) (N := 8) hx hb hts inlX0 tyX0 tyX0_ok nmX0 hown hK hP hD hS 0 rfl rfl 2 (by decide) (hts _ kw_118) (fun _ h9 => h9) rfl hin rfl (by decide +kernel) rfl rfl (Nat.le_of_ble_eq_true rfl) dX0_init_26 (fun H locs hP hD hS => ?_)
  have hP : va_P D vwCl [(h0, .inr (0, [.ref q8, .ref q16, .ref q24, .int 0, .int 0, .int 0, .int 0, .int 0])), (q8, .inl (C 1, 2000, .inl (fun _ => 0))), (q16, .inl (C 1, 40, .inl (fun _ => 0))), (q24, .inl (C 1, 100, .inl (fun _ => 0)))] H := hP
  have hD : va_D A [(h0, .inr (0, [.ref q8, .ref q16, .ref q24, .int 0, .int 0, .int 0, .int 0, .int 0])), (q8, .inl (C 1, 2000, .inl (fun _ => 0))), (q16, .inl (C 1, 40, .inl (fun _ => 0))), (q24, .inl (C 1, 100, .inl (fun _ => 0)))] := hD
  exact W.vret hx hb hr (fun t ht hW => ⟨⟨(), rfl, trivial, q8, q16, q24, by rw [ht]; exact hP, hD⟩, hS.F ht⟩) hS.2.2 dX0_init_29
abbrev rk_X7 : Room := { frames := 1, cells := 10, slots := 460, locals := 12 }
set_option maxHeartbeats 4000000 in
set_option maxRecDepth 100000 in
theorem kc_X7 (l : Launch) (D : va_G) (C : Nat → ClassId) (h0  : Nat) (sz : Nat) : Met l yX7_init (Cond.code yX7_init cX7_init 1 none :: wsL_law) rk_X7 (va_Pc [.ref h0] (fun U => U.heap.size = sz ∧ va_P D vwCl [(h0, .inr (7, [.int 0, .int 0, .int 0, .int 0, .int 0, .int 0, .int 0, .int 0, .null, .null, .null, .null, .null, .null, .null, .null, .null, .null]))] U.heap ∧ va_K D vwCl (tyL C) U ∧ NX U)) (va_Qv (fun _ : Unit => True) (fun _ t => ∃ (q7 : Nat) (q15 : Nat) (q23 : Nat) (q31 : Nat) (q39 : Nat) (q47 : Nat) (q55 : Nat) (q63 : Nat) (q71 : Nat) (q79 : Nat), va_P D vwCl [(h0, .inr (7, [.int 0, .int 0, .int 0, .int 0, .int 0, .int 0, .int 0, .int 0, .ref q7, .ref q15, .ref q23, .ref q31, .ref q39, .ref q47, .ref q55, .ref q63, .ref q71, .ref q79])), (q7, .inl (C 1, 100, .inl (fun _ => 0))), (q15, .inl (C 1, 40, .inl (fun _ => 0))), (q23, .inl (C 1, 40, .inl (fun _ => 0))), (q31, .inl (C 1, 40, .inl (fun _ => 0))), (q39, .inl (C 1, 40, .inl (fun _ => 0))), (q47, .inl (C 1, 40, .inl (fun _ => 0))), (q55, .inl (C 1, 40, .inl (fun _ => 0))), (q63, .inl (C 1, 40, .inl (fun _ => 0))), (q71, .inl (C 1, 40, .inl (fun _ => 0))), (q79, .inl (C 1, 40, .inl (fun _ => 0)))] t.heap ∧ va_D (va_A [(h0, .inr (7, [.int 0, .int 0, .int 0, .int 0, .int 0, .int 0, .int 0, .int 0, .null, .null, .null, .null, .null, .null, .null, .null, .null, .null]))] sz) [(h0, .inr (7, [.int 0, .int 0, .int 0, .int 0, .int 0, .int 0, .int 0, .int 0, .ref q7, .ref q15, .ref q23, .ref q31, .ref q39, .ref q47, .ref q55, .ref q63, .ref q71, .ref q79])), (q7, .inl (C 1, 100, .inl (fun _ => 0))), (q15, .inl (C 1, 40, .inl (fun _ => 0))), (q23, .inl (C 1, 40, .inl (fun _ => 0))), (q31, .inl (C 1, 40, .inl (fun _ => 0))), (q39, .inl (C 1, 40, .inl (fun _ => 0))), (q47, .inl (C 1, 40, .inl (fun _ => 0))), (q55, .inl (C 1, 40, .inl (fun _ => 0))), (q63, .inl (C 1, 40, .inl (fun _ => 0))), (q71, .inl (C 1, 40, .inl (fun _ => 0))), (q79, .inl (C 1, 40, .inl (fun _ => 0)))]) (va_A [(h0, .inr (7, [.int 0, .int 0, .int 0, .int 0, .int 0, .int 0, .int 0, .int 0, .null, .null, .null, .null, .null, .null, .null, .null, .null, .null]))] sz)) 10 460 (va_A [(h0, .inr (7, [.int 0, .int 0, .int 0, .int 0, .int 0, .int 0, .int 0, .int 0, .null, .null, .null, .null, .null, .null, .null, .null, .null, .null]))] sz) := by
  refine Met.ofW (cc := cX7_init) (maxL := 1) (ret := none) (by decide) rfl ?_
  intro p e s m args below meth c s₁ B hml hv
  obtain ⟨rfl, hsz, hP, hK, hN⟩ := hv
  have hx := B.exec
  have hb := B.bytes
  have hr := B.returns
  have hts := fun w h => atoms_spec (ws := Cond.code yX7_init cX7_init 1 none :: wsL_law) B.pre w (List.mem_cons_of_mem _ h)
  have hown : s.vm.findClass RX7 = some m.cls := findClass_of_methodNamed B.named
  have hin : meth.name = "<init>" := (name_of_methodNamed B.named B.method).1
  subst hsz
  have hD := (D_one (h0, .inr (7, [.int 0, .int 0, .int 0, .int 0, .int 0, .int 0, .int 0, .int 0, .null, .null, .null, .null, .null, .null, .null, .null, .null, .null]))).self (sz := s.heap.size)
  generalize hAe : va_A [(h0, .inr (7, [.int 0, .int 0, .int 0, .int 0, .int 0, .int 0, .int 0, .int 0, .null, .null, .null, .null, .null, .null, .null, .null, .null, .null]))] s.heap.size = A at hD ⊢
  have hA : ∀ q : Nat, s.heap.size ≤ q → A q := fun q h => by rw [← hAe]; exact Or.inr h
  have hS : va_S A s.heap s.heap [] := va_S.rf
  have hl := lv_entry ([.ref h0]) (n := 1) (Nat.le_of_ble_eq_true rfl)
  rw [lg_entry_eq]
  generalize (lg_sl ([.ref h0]) ++ List.replicate (1 - (lg_sl ([.ref h0])).length) Slot.unset).toArray = ls at hl ⊢
  have hl : lv_has ls 1 [(0, .ref h0)] := hl
  refine lv_aload_n hx hb dX7_init_0 rfl (lv_at hl 0 rfl) ?_
  refine W.objInit hx hb hown (hts (.methodLink RX7 3 objectInit) kw_121) (hts (.instanceMethod objectInit) kw_11) (hts _ kw_12) rfl (by rw [hml]; exact hl.1) rfl dX7_init_1 (Nat.le_of_ble_eq_true rfl) (Nat.le_of_ble_eq_true rfl) ?_
  refine W.eq (g2 := F0 m 4 ls []) rfl ?_
  refine lv_aload_n hx hb dX7_init_4 rfl (lv_at hl 0 rfl) ?_
  refine lv_bipush (v := 100) hx hb dX7_init_5 (by decide) ?_
  refine va_newa (atype := .int) (ty := .int) (N' := 100) (n := 100) (a0 := (100, .inl (fun _ => 0))) hx hb (hts (.arrayClass .int) kw_63) rfl hK hP hD hS hA (nw_int 100) (by decide) (by decide) (show 100 * 4 ≤ 536870912 by omega) (by decide) (by decide) dX7_init_7 (fun q7 cA H hK9 hP hD hS => ?_)
  obtain rfl : cA = C 1 := nk_int hK9
  have hP : va_P D vwCl [(h0, .inr (7, [.int 0, .int 0, .int 0, .int 0, .int 0, .int 0, .int 0, .int 0, .null, .null, .null, .null, .null, .null, .null, .null, .null, .null])), (q7, .inl (C 1, 100, .inl (fun _ => 0)))] H := hP
  have hD : va_D A [(h0, .inr (7, [.int 0, .int 0, .int 0, .int 0, .int 0, .int 0, .int 0, .int 0, .null, .null, .null, .null, .null, .null, .null, .null, .null, .null])), (q7, .inl (C 1, 100, .inl (fun _ => 0)))] := hD
  refine W.widen (k := 1) (n := 100) (by omega) (by omega) ?_
  refine va_putF (D := D) (ci := 7) (v := .ref q7) (ty := (.array .int)) (C := RX7) (T := TX7) (N := 18) hx hb hts inlX7 tyX7 tyX7_ok nmX7 hown hK hP hD hS 0 rfl rfl 8 (by decide) (hts _ kw_122) (fun _ h9 => h9) rfl hin rfl (by decide +kernel) rfl rfl (Nat.le_of_ble_eq_true rfl) dX7_init_9 (fun H locs hP hD hS => ?_)
  have hP : va_P D vwCl [(h0, .inr (7, [.int 0, .int 0, .int 0, .int 0, .int 0, .int 0, .int 0, .int 0, .ref q7, .null, .null, .null, .null, .null, .null, .null, .null, .null])), (q7, .inl (C 1, 100, .inl (fun _ => 0)))] H := hP
  have hD : va_D A [(h0, .inr (7, [.int 0, .int 0, .int 0, .int 0, .int 0, .int 0, .int 0, .int 0, .ref q7, .null, .null, .null, .null, .null, .null, .null, .null, .null])), (q7, .inl (C 1, 100, .inl (fun _ => 0)))] := hD
  refine lv_aload_n hx hb dX7_init_12 rfl (lv_at hl 0 rfl) ?_
  refine lv_bipush (v := 40) hx hb dX7_init_13 (by decide) ?_
  refine va_newa (atype := .int) (ty := .int) (N' := 40) (n := 40) (a0 := (40, .inl (fun _ => 0))) hx hb (hts (.arrayClass .int) kw_63) rfl hK hP hD hS hA (nw_int 40) (by decide) (by decide) (show 40 * 4 ≤ 536870912 by omega) (by decide) (by decide) dX7_init_15 (fun q15 cA H hK9 hP hD hS => ?_)
  obtain rfl : cA = C 1 := nk_int hK9
  have hP : va_P D vwCl [(h0, .inr (7, [.int 0, .int 0, .int 0, .int 0, .int 0, .int 0, .int 0, .int 0, .ref q7, .null, .null, .null, .null, .null, .null, .null, .null, .null])), (q7, .inl (C 1, 100, .inl (fun _ => 0))), (q15, .inl (C 1, 40, .inl (fun _ => 0)))] H := hP
  have hD : va_D A [(h0, .inr (7, [.int 0, .int 0, .int 0, .int 0, .int 0, .int 0, .int 0, .int 0, .ref q7, .null, .null, .null, .null, .null, .null, .null, .null, .null])), (q7, .inl (C 1, 100, .inl (fun _ => 0))), (q15, .inl (C 1, 40, .inl (fun _ => 0)))] := hD
  refine W.widen (k := 2) (n := 140) (by omega) (by omega) ?_
  refine va_putF (D := D) (ci := 7) (v := .ref q15) (ty := (.array .int)) (C := RX7) (T := TX7) (N := 18) hx hb hts inlX7 tyX7 tyX7_ok nmX7 hown hK hP hD hS 0 rfl rfl 9 (by decide) (hts _ kw_123) (fun _ h9 => h9) rfl hin rfl (by decide +kernel) rfl rfl (Nat.le_of_ble_eq_true rfl) dX7_init_17 (fun H locs hP hD hS => ?_)
  have hP : va_P D vwCl [(h0, .inr (7, [.int 0, .int 0, .int 0, .int 0, .int 0, .int 0, .int 0, .int 0, .ref q7, .ref q15, .null, .null, .null, .null, .null, .null, .null, .null])), (q7, .inl (C 1, 100, .inl (fun _ => 0))), (q15, .inl (C 1, 40, .inl (fun _ => 0)))] H := hP
  have hD : va_D A [(h0, .inr (7, [.int 0, .int 0, .int 0, .int 0, .int 0, .int 0, .int 0, .int 0, .ref q7, .ref q15, .null, .null, .null, .null, .null, .null, .null, .null])), (q7, .inl (C 1, 100, .inl (fun _ => 0))), (q15, .inl (C 1, 40, .inl (fun _ => 0)))] := hD
  refine lv_aload_n hx hb dX7_init_20 rfl (lv_at hl 0 rfl) ?_
  refine lv_bipush (v := 40) hx hb dX7_init_21 (by decide) ?_
  refine va_newa (atype := .int) (ty := .int) (N' := 40) (n := 40) (a0 := (40, .inl (fun _ => 0))) hx hb (hts (.arrayClass .int) kw_63) rfl hK hP hD hS hA (nw_int 40) (by decide) (by decide) (show 40 * 4 ≤ 536870912 by omega) (by decide) (by decide) dX7_init_23 (fun q23 cA H hK9 hP hD hS => ?_)
  obtain rfl : cA = C 1 := nk_int hK9
  have hP : va_P D vwCl [(h0, .inr (7, [.int 0, .int 0, .int 0, .int 0, .int 0, .int 0, .int 0, .int 0, .ref q7, .ref q15, .null, .null, .null, .null, .null, .null, .null, .null])), (q7, .inl (C 1, 100, .inl (fun _ => 0))), (q15, .inl (C 1, 40, .inl (fun _ => 0))), (q23, .inl (C 1, 40, .inl (fun _ => 0)))] H := hP
  have hD : va_D A [(h0, .inr (7, [.int 0, .int 0, .int 0, .int 0, .int 0, .int 0, .int 0, .int 0, .ref q7, .ref q15, .null, .null, .null, .null, .null, .null, .null, .null])), (q7, .inl (C 1, 100, .inl (fun _ => 0))), (q15, .inl (C 1, 40, .inl (fun _ => 0))), (q23, .inl (C 1, 40, .inl (fun _ => 0)))] := hD
  refine W.widen (k := 3) (n := 180) (by omega) (by omega) ?_
  refine va_putF (D := D) (ci := 7) (v := .ref q23) (ty := (.array .int)) (C := RX7) (T := TX7) (N := 18) hx hb hts inlX7 tyX7 tyX7_ok nmX7 hown hK hP hD hS 0 rfl rfl 10 (by decide) (hts _ kw_124) (fun _ h9 => h9) rfl hin rfl (by decide +kernel) rfl rfl (Nat.le_of_ble_eq_true rfl) dX7_init_25 (fun H locs hP hD hS => ?_)
  have hP : va_P D vwCl [(h0, .inr (7, [.int 0, .int 0, .int 0, .int 0, .int 0, .int 0, .int 0, .int 0, .ref q7, .ref q15, .ref q23, .null, .null, .null, .null, .null, .null, .null])), (q7, .inl (C 1, 100, .inl (fun _ => 0))), (q15, .inl (C 1, 40, .inl (fun _ => 0))), (q23, .inl (C 1, 40, .inl (fun _ => 0)))] H := hP
  have hD : va_D A [(h0, .inr (7, [.int 0, .int 0, .int 0, .int 0, .int 0, .int 0, .int 0, .int 0, .ref q7, .ref q15, .ref q23, .null, .null, .null, .null, .null, .null, .null])), (q7, .inl (C 1, 100, .inl (fun _ => 0))), (q15, .inl (C 1, 40, .inl (fun _ => 0))), (q23, .inl (C 1, 40, .inl (fun _ => 0)))] := hD
  refine lv_aload_n hx hb dX7_init_28 rfl (lv_at hl 0 rfl) ?_
  refine lv_bipush (v := 40) hx hb dX7_init_29 (by decide) ?_
  refine va_newa (atype := .int) (ty := .int) (N' := 40) (n := 40) (a0 := (40, .inl (fun _ => 0))) hx hb (hts (.arrayClass .int) kw_63) rfl hK hP hD hS hA (nw_int 40) (by decide) (by decide) (show 40 * 4 ≤ 536870912 by omega) (by decide) (by decide) dX7_init_31 (fun q31 cA H hK9 hP hD hS => ?_)
  obtain rfl : cA = C 1 := nk_int hK9
  have hP : va_P D vwCl [(h0, .inr (7, [.int 0, .int 0, .int 0, .int 0, .int 0, .int 0, .int 0, .int 0, .ref q7, .ref q15, .ref q23, .null, .null, .null, .null, .null, .null, .null])), (q7, .inl (C 1, 100, .inl (fun _ => 0))), (q15, .inl (C 1, 40, .inl (fun _ => 0))), (q23, .inl (C 1, 40, .inl (fun _ => 0))), (q31, .inl (C 1, 40, .inl (fun _ => 0)))] H := hP
  have hD : va_D A [(h0, .inr (7, [.int 0, .int 0, .int 0, .int 0, .int 0, .int 0, .int 0, .int 0, .ref q7, .ref q15, .ref q23, .null, .null, .null, .null, .null, .null, .null])), (q7, .inl (C 1, 100, .inl (fun _ => 0))), (q15, .inl (C 1, 40, .inl (fun _ => 0))), (q23, .inl (C 1, 40, .inl (fun _ => 0))), (q31, .inl (C 1, 40, .inl (fun _ => 0)))] := hD
  refine W.widen (k := 4) (n := 220) (by omega) (by omega) ?_
  refine va_putF (D := D) (ci := 7) (v := .ref q31) (ty := (.array .int)) (C := RX7) (T := TX7) (N := 18) hx hb hts inlX7 tyX7 tyX7_ok nmX7 hown hK hP hD hS 0 rfl rfl 11 (by decide) (hts _ kw_125) (fun _ h9 => h9) rfl hin rfl (by decide +kernel) rfl rfl (Nat.le_of_ble_eq_true rfl) dX7_init_33 (fun H locs hP hD hS => ?_)
  have hP : va_P D vwCl [(h0, .inr (7, [.int 0, .int 0, .int 0, .int 0, .int 0, .int 0, .int 0, .int 0, .ref q7, .ref q15, .ref q23, .ref q31, .null, .null, .null, .null, .null, .null])), (q7, .inl (C 1, 100, .inl (fun _ => 0))), (q15, .inl (C 1, 40, .inl (fun _ => 0))), (q23, .inl (C 1, 40, .inl (fun _ => 0))), (q31, .inl (C 1, 40, .inl (fun _ => 0)))] H := hP
  have hD : va_D A [(h0, .inr (7, [.int 0, .int 0, .int 0, .int 0, .int 0, .int 0, .int 0, .int 0, .ref q7, .ref q15, .ref q23, .ref q31, .null, .null, .null, .null, .null, .null])), (q7, .inl (C 1, 100, .inl (fun _ => 0))), (q15, .inl (C 1, 40, .inl (fun _ => 0))), (q23, .inl (C 1, 40, .inl (fun _ => 0))), (q31, .inl (C 1, 40, .inl (fun _ => 0)))] := hD
  refine lv_aload_n hx hb dX7_init_36 rfl (lv_at hl 0 rfl) ?_
  refine lv_bipush (v := 40) hx hb dX7_init_37 (by decide) ?_
  refine va_newa (atype := .int) (ty := .int) (N' := 40) (n := 40) (a0 := (40, .inl (fun _ => 0))) hx hb (hts (.arrayClass .int) kw_63) rfl hK hP hD hS hA (nw_int 40) (by decide) (by decide) (show 40 * 4 ≤ 536870912 by omega) (by decide) (by decide) dX7_init_39 (fun q39 cA H hK9 hP hD hS => ?_)
  obtain rfl : cA = C 1 := nk_int hK9
  have hP : va_P D vwCl [(h0, .inr (7, [.int 0, .int 0, .int 0, .int 0, .int 0, .int 0, .int 0, .int 0, .ref q7, .ref q15, .ref q23, .ref q31, .null, .null, .null, .null, .null, .null])), (q7, .inl (C 1, 100, .inl (fun _ => 0))), (q15, .inl (C 1, 40, .inl (fun _ => 0))), (q23, .inl (C 1, 40, .inl (fun _ => 0))), (q31, .inl (C 1, 40, .inl (fun _ => 0))), (q39, .inl (C 1, 40, .inl (fun _ => 0)))] H := hP
  have hD : va_D A [(h0, .inr (7, [.int 0, .int 0, .int 0, .int 0, .int 0, .int 0, .int 0, .int 0, .ref q7, .ref q15, .ref q23, .ref q31, .null, .null, .null, .null, .null, .null])), (q7, .inl (C 1, 100, .inl (fun _ => 0))), (q15, .inl (C 1, 40, .inl (fun _ => 0))), (q23, .inl (C 1, 40, .inl (fun _ => 0))), (q31, .inl (C 1, 40, .inl (fun _ => 0))), (q39, .inl (C 1, 40, .inl (fun _ => 0)))] := hD
  refine W.widen (k := 5) (n := 260) (by omega) (by omega) ?_
  refine va_putF (D := D) (ci := 7) (v := .ref q39) (ty := (.array .int)) (C := RX7) (T := TX7) (N := 18) hx hb hts inlX7 tyX7 tyX7_ok nmX7 hown hK hP hD hS 0 rfl rfl 12 (by decide) (hts _ kw_126) (fun _ h9 => h9) rfl hin rfl (by decide +kernel) rfl rfl (Nat.le_of_ble_eq_true rfl) dX7_init_41 (fun H locs hP hD hS => ?_)
  have hP : va_P D vwCl [(h0, .inr (7, [.int 0, .int 0, .int 0, .int 0, .int 0, .int 0, .int 0, .int 0, .ref q7, .ref q15, .ref q23, .ref q31, .ref q39, .null, .null, .null, .null, .null])), (q7, .inl (C 1, 100, .inl (fun _ => 0))), (q15, .inl (C 1, 40, .inl (fun _ => 0))), (q23, .inl (C 1, 40, .inl (fun _ => 0))), (q31, .inl (C 1, 40, .inl (fun _ => 0))), (q39, .inl (C 1, 40, .inl (fun _ => 0)))] H := hP
  have hD : va_D A [(h0, .inr (7, [.int 0, .int 0, .int 0, .int 0, .int 0, .int 0, .int 0, .int 0, .ref q7, .ref q15, .ref q23, .ref q31, .ref q39, .null, .null, .null, .null, .null])), (q7, .inl (C 1, 100, .inl (fun _ => 0))), (q15, .inl (C 1, 40, .inl (fun _ => 0))), (q23, .inl (C 1, 40, .inl (fun _ => 0))), (q31, .inl (C 1, 40, .inl (fun _ => 0))), (q39, .inl (C 1, 40, .inl (fun _ => 0)))] := hD
  refine lv_aload_n hx hb dX7_init_44 rfl (lv_at hl 0 rfl) ?_
  refine lv_bipush (v := 40) hx hb dX7_init_45 (by decide) ?_
  refine va_newa (atype := .int) (ty := .int) (N' := 40) (n := 40) (a0 := (40, .inl (fun _ => 0))) hx hb (hts (.arrayClass .int) kw_63) rfl hK hP hD hS hA (nw_int 40) (by decide) (by decide) (show 40 * 4 ≤ 536870912 by omega) (by decide) (by decide) dX7_init_47 (fun q47 cA H hK9 hP hD hS => ?_)
  obtain rfl : cA = C 1 := nk_int hK9
  have hP : va_P D vwCl [(h0, .inr (7, [.int 0, .int 0, .int 0, .int 0, .int 0, .int 0, .int 0, .int 0, .ref q7, .ref q15, .ref q23, .ref q31, .ref q39, .null, .null, .null, .null, .null])), (q7, .inl (C 1, 100, .inl (fun _ => 0))), (q15, .inl (C 1, 40, .inl (fun _ => 0))), (q23, .inl (C 1, 40, .inl (fun _ => 0))), (q31, .inl (C 1, 40, .inl (fun _ => 0))), (q39, .inl (C 1, 40, .inl (fun _ => 0))), (q47, .inl (C 1, 40, .inl (fun _ => 0)))] H := hP
  have hD : va_D A [(h0, .inr (7, [.int 0, .int 0, .int 0, .int 0, .int 0, .int 0, .int 0, .int 0, .ref q7, .ref q15, .ref q23, .ref q31, .ref q39, .null, .null, .null, .null, .null])), (q7, .inl (C 1, 100, .inl (fun _ => 0))), (q15, .inl (C 1, 40, .inl (fun _ => 0))), (q23, .inl (C 1, 40, .inl (fun _ => 0))), (q31, .inl (C 1, 40, .inl (fun _ => 0))), (q39, .inl (C 1, 40, .inl (fun _ => 0))), (q47, .inl (C 1, 40, .inl (fun _ => 0)))] := hD
  refine W.widen (k := 6) (n := 300) (by omega) (by omega) ?_
  refine va_putF (D := D) (ci := 7) (v := .ref q47) (ty := (.array .int)) (C := RX7) (T := TX7) (N := 18) hx hb hts inlX7 tyX7 tyX7_ok nmX7 hown hK hP hD hS 0 rfl rfl 13 (by decide) (hts _ kw_127) (fun _ h9 => h9) rfl hin rfl (by decide +kernel) rfl rfl (Nat.le_of_ble_eq_true rfl) dX7_init_49 (fun H locs hP hD hS => ?_)
  have hP : va_P D vwCl [(h0, .inr (7, [.int 0, .int 0, .int 0, .int 0, .int 0, .int 0, .int 0, .int 0, .ref q7, .ref q15, .ref q23, .ref q31, .ref q39, .ref q47, .null, .null, .null, .null])), (q7, .inl (C 1, 100, .inl (fun _ => 0))), (q15, .inl (C 1, 40, .inl (fun _ => 0))), (q23, .inl (C 1, 40, .inl (fun _ => 0))), (q31, .inl (C 1, 40, .inl (fun _ => 0))), (q39, .inl (C 1, 40, .inl (fun _ => 0))), (q47, .inl (C 1, 40, .inl (fun _ => 0)))] H := hP
  have hD : va_D A [(h0, .inr (7, [.int 0, .int 0, .int 0, .int 0, .int 0, .int 0, .int 0, .int 0, .ref q7, .ref q15, .ref q23, .ref q31, .ref q39, .ref q47, .null, .null, .null, .null])), (q7, .inl (C 1, 100, .inl (fun _ => 0))), (q15, .inl (C 1, 40, .inl (fun _ => 0))), (q23, .inl (C 1, 40, .inl (fun _ => 0))), (q31, .inl (C 1, 40, .inl (fun _ => 0))), (q39, .inl (C 1, 40, .inl (fun _ => 0))), (q47, .inl (C 1, 40, .inl (fun _ => 0)))] := hD
  refine lv_aload_n hx hb dX7_init_52 rfl (lv_at hl 0 rfl) ?_
  refine lv_bipush (v := 40) hx hb dX7_init_53 (by decide) ?_
  refine va_newa (atype := .int) (ty := .int) (N' := 40) (n := 40) (a0 := (40, .inl (fun _ => 0))) hx hb (hts (.arrayClass .int) kw_63) rfl hK hP hD hS hA (nw_int 40) (by decide) (by decide) (show 40 * 4 ≤ 536870912 by omega) (by decide) (by decide) dX7_init_55 (fun q55 cA H hK9 hP hD hS => ?_)
  obtain rfl : cA = C 1 := nk_int hK9
  have hP : va_P D vwCl [(h0, .inr (7, [.int 0, .int 0, .int 0, .int 0, .int 0, .int 0, .int 0, .int 0, .ref q7, .ref q15, .ref q23, .ref q31, .ref q39, .ref q47, .null, .null, .null, .null])), (q7, .inl (C 1, 100, .inl (fun _ => 0))), (q15, .inl (C 1, 40, .inl (fun _ => 0))), (q23, .inl (C 1, 40, .inl (fun _ => 0))), (q31, .inl (C 1, 40, .inl (fun _ => 0))), (q39, .inl (C 1, 40, .inl (fun _ => 0))), (q47, .inl (C 1, 40, .inl (fun _ => 0))), (q55, .inl (C 1, 40, .inl (fun _ => 0)))] H := hP
  have hD : va_D A [(h0, .inr (7, [.int 0, .int 0, .int 0, .int 0, .int 0, .int 0, .int 0, .int 0, .ref q7, .ref q15, .ref q23, .ref q31, .ref q39, .ref q47, .null, .null, .null, .null])), (q7, .inl (C 1, 100, .inl (fun _ => 0))), (q15, .inl (C 1, 40, .inl (fun _ => 0))), (q23, .inl (C 1, 40, .inl (fun _ => 0))), (q31, .inl (C 1, 40, .inl (fun _ => 0))), (q39, .inl (C 1, 40, .inl (fun _ => 0))), (q47, .inl (C 1, 40, .inl (fun _ => 0))), (q55, .inl (C 1, 40, .inl (fun _ => 0)))] := hD
  refine W.widen (k := 7) (n := 340) (by omega) (by omega) ?_
  refine va_putF (D := D) (ci := 7) (v := .ref q55) (ty := (.array .int)) (C := RX7) (T := TX7) (N := 18) hx hb hts inlX7 tyX7 tyX7_ok nmX7 hown hK hP hD hS 0 rfl rfl 14 (by decide) (hts _ kw_128) (fun _ h9 => h9) rfl hin rfl (by decide +kernel) rfl rfl (Nat.le_of_ble_eq_true rfl) dX7_init_57 (fun H locs hP hD hS => ?_)
  have hP : va_P D vwCl [(h0, .inr (7, [.int 0, .int 0, .int 0, .int 0, .int 0, .int 0, .int 0, .int 0, .ref q7, .ref q15, .ref q23, .ref q31, .ref q39, .ref q47, .ref q55, .null, .null, .null])), (q7, .inl (C 1, 100, .inl (fun _ => 0))), (q15, .inl (C 1, 40, .inl (fun _ => 0))), (q23, .inl (C 1, 40, .inl (fun _ => 0))), (q31, .inl (C 1, 40, .inl (fun _ => 0))), (q39, .inl (C 1, 40, .inl (fun _ => 0))), (q47, .inl (C 1, 40, .inl (fun _ => 0))), (q55, .inl (C 1, 40, .inl (fun _ => 0)))] H := hP
  have hD : va_D A [(h0, .inr (7, [.int 0, .int 0, .int 0, .int 0, .int 0, .int 0, .int 0, .int 0, .ref q7, .ref q15, .ref q23, .ref q31, .ref q39, .ref q47, .ref q55, .null, .null, .null])), (q7, .inl (C 1, 100, .inl (fun _ => 0))), (q15, .inl (C 1, 40, .inl (fun _ => 0))), (q23, .inl (C 1, 40, .inl (fun _ => 0))), (q31, .inl (C 1, 40, .inl (fun _ => 0))), (q39, .inl (C 1, 40, .inl (fun _ => 0))), (q47, .inl (C 1, 40, .inl (fun _ => 0))), (q55, .inl (C 1, 40, .inl (fun _ => 0)))] := hD
  refine lv_aload_n hx hb dX7_init_60 rfl (lv_at hl 0 rfl) ?_
  refine lv_bipush (v := 40) hx hb dX7_init_61 (by decide) ?_
  refine va_newa (atype := .int) (ty := .int) (N' := 40) (n := 40) (a0 := (40, .inl (fun _ => 0))) hx hb (hts (.arrayClass .int) kw_63) rfl hK hP hD hS hA (nw_int 40) (by decide) (by decide) (show 40 * 4 ≤ 536870912 by omega) (by decide) (by decide) dX7_init_63 (fun q63 cA H hK9 hP hD hS => ?_)
  obtain rfl : cA = C 1 := nk_int hK9
  have hP : va_P D vwCl [(h0, .inr (7, [.int 0, .int 0, .int 0, .int 0, .int 0, .int 0, .int 0, .int 0, .ref q7, .ref q15, .ref q23, .ref q31, .ref q39, .ref q47, .ref q55, .null, .null, .null])), (q7, .inl (C 1, 100, .inl (fun _ => 0))), (q15, .inl (C 1, 40, .inl (fun _ => 0))), (q23, .inl (C 1, 40, .inl (fun _ => 0))), (q31, .inl (C 1, 40, .inl (fun _ => 0))), (q39, .inl (C 1, 40, .inl (fun _ => 0))), (q47, .inl (C 1, 40, .inl (fun _ => 0))), (q55, .inl (C 1, 40, .inl (fun _ => 0))), (q63, .inl (C 1, 40, .inl (fun _ => 0)))] H := hP
  have hD : va_D A [(h0, .inr (7, [.int 0, .int 0, .int 0, .int 0, .int 0, .int 0, .int 0, .int 0, .ref q7, .ref q15, .ref q23, .ref q31, .ref q39, .ref q47, .ref q55, .null, .null, .null])), (q7, .inl (C 1, 100, .inl (fun _ => 0))), (q15, .inl (C 1, 40, .inl (fun _ => 0))), (q23, .inl (C 1, 40, .inl (fun _ => 0))), (q31, .inl (C 1, 40, .inl (fun _ => 0))), (q39, .inl (C 1, 40, .inl (fun _ => 0))), (q47, .inl (C 1, 40, .inl (fun _ => 0))), (q55, .inl (C 1, 40, .inl (fun _ => 0))), (q63, .inl (C 1, 40, .inl (fun _ => 0)))] := hD
  refine W.widen (k := 8) (n := 380) (by omega) (by omega) ?_
  refine va_putF (D := D) (ci := 7) (v := .ref q63) (ty := (.array .int)) (C := RX7) (T := TX7) (N := 18) hx hb hts inlX7 tyX7 tyX7_ok nmX7 hown hK hP hD hS 0 rfl rfl 15 (by decide) (hts _ kw_129) (fun _ h9 => h9) rfl hin rfl (by decide +kernel) rfl rfl (Nat.le_of_ble_eq_true rfl) dX7_init_65 (fun H locs hP hD hS => ?_)
  have hP : va_P D vwCl [(h0, .inr (7, [.int 0, .int 0, .int 0, .int 0, .int 0, .int 0, .int 0, .int 0, .ref q7, .ref q15, .ref q23, .ref q31, .ref q39, .ref q47, .ref q55, .ref q63, .null, .null])), (q7, .inl (C 1, 100, .inl (fun _ => 0))), (q15, .inl (C 1, 40, .inl (fun _ => 0))), (q23, .inl (C 1, 40, .inl (fun _ => 0))), (q31, .inl (C 1, 40, .inl (fun _ => 0))), (q39, .inl (C 1, 40, .inl (fun _ => 0))), (q47, .inl (C 1, 40, .inl (fun _ => 0))), (q55, .inl (C 1, 40, .inl (fun _ => 0))), (q63, .inl (C 1, 40, .inl (fun _ => 0)))] H := hP
  have hD : va_D A [(h0, .inr (7, [.int 0, .int 0, .int 0, .int 0, .int 0, .int 0, .int 0, .int 0, .ref q7, .ref q15, .ref q23, .ref q31, .ref q39, .ref q47, .ref q55, .ref q63, .null, .null])), (q7, .inl (C 1, 100, .inl (fun _ => 0))), (q15, .inl (C 1, 40, .inl (fun _ => 0))), (q23, .inl (C 1, 40, .inl (fun _ => 0))), (q31, .inl (C 1, 40, .inl (fun _ => 0))), (q39, .inl (C 1, 40, .inl (fun _ => 0))), (q47, .inl (C 1, 40, .inl (fun _ => 0))), (q55, .inl (C 1, 40, .inl (fun _ => 0))), (q63, .inl (C 1, 40, .inl (fun _ => 0)))] := hD
  refine lv_aload_n hx hb dX7_init_68 rfl (lv_at hl 0 rfl) ?_
  refine lv_bipush (v := 40) hx hb dX7_init_69 (by decide) ?_
  refine va_newa (atype := .int) (ty := .int) (N' := 40) (n := 40) (a0 := (40, .inl (fun _ => 0))) hx hb (hts (.arrayClass .int) kw_63) rfl hK hP hD hS hA (nw_int 40) (by decide) (by decide) (show 40 * 4 ≤ 536870912 by omega) (by decide) (by decide) dX7_init_71 (fun q71 cA H hK9 hP hD hS => ?_)
  obtain rfl : cA = C 1 := nk_int hK9
  have hP : va_P D vwCl [(h0, .inr (7, [.int 0, .int 0, .int 0, .int 0, .int 0, .int 0, .int 0, .int 0, .ref q7, .ref q15, .ref q23, .ref q31, .ref q39, .ref q47, .ref q55, .ref q63, .null, .null])), (q7, .inl (C 1, 100, .inl (fun _ => 0))), (q15, .inl (C 1, 40, .inl (fun _ => 0))), (q23, .inl (C 1, 40, .inl (fun _ => 0))), (q31, .inl (C 1, 40, .inl (fun _ => 0))), (q39, .inl (C 1, 40, .inl (fun _ => 0))), (q47, .inl (C 1, 40, .inl (fun _ => 0))), (q55, .inl (C 1, 40, .inl (fun _ => 0))), (q63, .inl (C 1, 40, .inl (fun _ => 0))), (q71, .inl (C 1, 40, .inl (fun _ => 0)))] H := hP
  have hD : va_D A [(h0, .inr (7, [.int 0, .int 0, .int 0, .int 0, .int 0, .int 0, .int 0, .int 0, .ref q7, .ref q15, .ref q23, .ref q31, .ref q39, .ref q47, .ref q55, .ref q63, .null, .null])), (q7, .inl (C 1, 100, .inl (fun _ => 0))), (q15, .inl (C 1, 40, .inl (fun _ => 0))), (q23, .inl (C 1, 40, .inl (fun _ => 0))), (q31, .inl (C 1, 40, .inl (fun _ => 0))), (q39, .inl (C 1, 40, .inl (fun _ => 0))), (q47, .inl (C 1, 40, .inl (fun _ => 0))), (q55, .inl (C 1, 40, .inl (fun _ => 0))), (q63, .inl (C 1, 40, .inl (fun _ => 0))), (q71, .inl (C 1, 40, .inl (fun _ => 0)))] := hD
  refine W.widen (k := 9) (n := 420) (by omega) (by omega) ?_
  refine va_putF (D := D) (ci := 7) (v := .ref q71) (ty := (.array .int)) (C := RX7) (T := TX7) (N := 18) hx hb hts inlX7 tyX7 tyX7_ok nmX7 hown hK hP hD hS 0 rfl rfl 16 (by decide) (hts _ kw_130) (fun _ h9 => h9) rfl hin rfl (by decide +kernel) rfl rfl (Nat.le_of_ble_eq_true rfl) dX7_init_73 (fun H locs hP hD hS => ?_)
  have hP : va_P D vwCl [(h0, .inr (7, [.int 0, .int 0, .int 0, .int 0, .int 0, .int 0, .int 0, .int 0, .ref q7, .ref q15, .ref q23, .ref q31, .ref q39, .ref q47, .ref q55, .ref q63, .ref q71, .null])), (q7, .inl (C 1, 100, .inl (fun _ => 0))), (q15, .inl (C 1, 40, .inl (fun _ => 0))), (q23, .inl (C 1, 40, .inl (fun _ => 0))), (q31, .inl (C 1, 40, .inl (fun _ => 0))), (q39, .inl (C 1, 40, .inl (fun _ => 0))), (q47, .inl (C 1, 40, .inl (fun _ => 0))), (q55, .inl (C 1, 40, .inl (fun _ => 0))), (q63, .inl (C 1, 40, .inl (fun _ => 0))), (q71, .inl (C 1, 40, .inl (fun _ => 0)))] H := hP
  have hD : va_D A [(h0, .inr (7, [.int 0, .int 0, .int 0, .int 0, .int 0, .int 0, .int 0, .int 0, .ref q7, .ref q15, .ref q23, .ref q31, .ref q39, .ref q47, .ref q55, .ref q63, .ref q71, .null])), (q7, .inl (C 1, 100, .inl (fun _ => 0))), (q15, .inl (C 1, 40, .inl (fun _ => 0))), (q23, .inl (C 1, 40, .inl (fun _ => 0))), (q31, .inl (C 1, 40, .inl (fun _ => 0))), (q39, .inl (C 1, 40, .inl (fun _ => 0))), (q47, .inl (C 1, 40, .inl (fun _ => 0))), (q55, .inl (C 1, 40, .inl (fun _ => 0))), (q63, .inl (C 1, 40, .inl (fun _ => 0))), (q71, .inl (C 1, 40, .inl (fun _ => 0)))] := hD
  refine lv_aload_n hx hb dX7_init_76 rfl (lv_at hl 0 rfl) ?_
  refine lv_bipush (v := 40) hx hb dX7_init_77 (by decide) ?_
  refine va_newa (atype := .int) (ty := .int) (N' := 40) (n := 40) (a0 := (40, .inl (fun _ => 0))) hx hb (hts (.arrayClass .int) kw_63) rfl hK hP hD hS hA (nw_int 40) (by decide) (by decide) (show 40 * 4 ≤ 536870912 by omega) (by decide) (by decide) dX7_init_79 (fun q79 cA H hK9 hP hD hS => ?_)
  obtain rfl : cA = C 1 := nk_int hK9
  have hP : va_P D vwCl [(h0, .inr (7, [.int 0, .int 0, .int 0, .int 0, .int 0, .int 0, .int 0, .int 0, .ref q7, .ref q15, .ref q23, .ref q31, .ref q39, .ref q47, .ref q55, .ref q63, .ref q71, .null])), (q7, .inl (C 1, 100, .inl (fun _ => 0))), (q15, .inl (C 1, 40, .inl (fun _ => 0))), (q23, .inl (C 1, 40, .inl (fun _ => 0))), (q31, .inl (C 1, 40, .inl (fun _ => 0))), (q39, .inl (C 1, 40, .inl (fun _ => 0))), (q47, .inl (C 1, 40, .inl (fun _ => 0))), (q55, .inl (C 1, 40, .inl (fun _ => 0))), (q63, .inl (C 1, 40, .inl (fun _ => 0))), (q71, .inl (C 1, 40, .inl (fun _ => 0))), (q79, .inl (C 1, 40, .inl (fun _ => 0)))] H := hP
  have hD : va_D A [(h0, .inr (7, [.int 0, .int 0, .int 0, .int 0, .int 0, .int 0, .int 0, .int 0, .ref q7, .ref q15, .ref q23, .ref q31, .ref q39, .ref q47, .ref q55, .ref q63, .ref q71, .null])), (q7, .inl (C 1, 100, .inl (fun _ => 0))), (q15, .inl (C 1, 40, .inl (fun _ => 0))), (q23, .inl (C 1, 40, .inl (fun _ => 0))), (q31, .inl (C 1, 40, .inl (fun _ => 0))), (q39, .inl (C 1, 40, .inl (fun _ => 0))), (q47, .inl (C 1, 40, .inl (fun _ => 0))), (q55, .inl (C 1, 40, .inl (fun _ => 0))), (q63, .inl (C 1, 40, .inl (fun _ => 0))), (q71, .inl (C 1, 40, .inl (fun _ => 0))), (q79, .inl (C 1, 40, .inl (fun _ => 0)))] := hD
  refine W.widen (k := 10) (n := 460) (by omega) (by omega) ?_
  refine va_putF (D := D) (ci := 7) (v := .ref q79) (ty := (.array .int)) (C := RX7) (T := TX7) (N := 18) hx hb hts inlX7 tyX7 tyX7_ok nmX7 hown hK hP hD hS 0 rfl rfl 17 (by decide) (hts _ kw_131) (fun _ h9 => h9) rfl hin rfl (by decide +kernel) rfl rfl (Nat.le_of_ble_eq_true rfl) dX7_init_81 (fun H locs hP hD hS => ?_)
  have hP : va_P D vwCl [(h0, .inr (7, [.int 0, .int 0, .int 0, .int 0, .int 0, .int 0, .int 0, .int 0, .ref q7, .ref q15, .ref q23, .ref q31, .ref q39, .ref q47, .ref q55, .ref q63, .ref q71, .ref q79])), (q7, .inl (C 1, 100, .inl (fun _ => 0))), (q15, .inl (C 1, 40, .inl (fun _ => 0))), (q23, .inl (C 1, 40, .inl (fun _ => 0))), (q31, .inl (C 1, 40, .inl (fun _ => 0))), (q39, .inl (C 1, 40, .inl (fun _ => 0))), (q47, .inl (C 1, 40, .inl (fun _ => 0))), (q55, .inl (C 1, 40, .inl (fun _ => 0))), (q63, .inl (C 1, 40, .inl (fun _ => 0))), (q71, .inl (C 1, 40, .inl (fun _ => 0))), (q79, .inl (C 1, 40, .inl (fun _ => 0)))] H := hP
  have hD : va_D A [(h0, .inr (7, [.int 0, .int 0, .int 0, .int 0, .int 0, .int 0, .int 0, .int 0, .ref q7, .ref q15, .ref q23, .ref q31, .ref q39, .ref q47, .ref q55, .ref q63, .ref q71, .ref q79])), (q7, .inl (C 1, 100, .inl (fun _ => 0))), (q15, .inl (C 1, 40, .inl (fun _ => 0))), (q23, .inl (C 1, 40, .inl (fun _ => 0))), (q31, .inl (C 1, 40, .inl (fun _ => 0))), (q39, .inl (C 1, 40, .inl (fun _ => 0))), (q47, .inl (C 1, 40, .inl (fun _ => 0))), (q55, .inl (C 1, 40, .inl (fun _ => 0))), (q63, .inl (C 1, 40, .inl (fun _ => 0))), (q71, .inl (C 1, 40, .inl (fun _ => 0))), (q79, .inl (C 1, 40, .inl (fun _ => 0)))] := hD
  exact W.vret hx hb hr (fun t ht hW => ⟨⟨(), rfl, trivial, q7, q15, q23, q31, q39, q47, q55, q63, q71, q79, by rw [ht]; exact hP, hD⟩, hS.F ht⟩) hS.2.2 dX7_init_84
abbrev rk_X8 : Room := { frames := 1, cells := 3, slots := 18, locals := 12 }
set_option maxHeartbeats 4000000 in
set_option maxRecDepth 100000 in
theorem kc_X8 (l : Launch) (D : va_G) (C : Nat → ClassId) (h0 p1 p2 p3 : Nat) (sz : Nat) : Met l yX8_init (Cond.code yX8_init cX8_init 4 none :: wsL_law) rk_X8 (va_Pc [.ref h0, .ref p1, .ref p2, .ref p3] (fun U => U.heap.size = sz ∧ va_P D vwCl [(h0, .inr (8, [.null, .null, .null, .int 0, .null, .null, .null]))] U.heap ∧ va_K D vwCl (tyL C) U ∧ NX U)) (va_Qv (fun _ : Unit => True) (fun _ t => ∃ (q7 : Nat) (q15 : Nat) (q23 : Nat), va_P D vwCl [(h0, .inr (8, [.ref p1, .ref p2, .ref p3, .int 0, .ref q7, .ref q15, .ref q23])), (q7, .inl (C 1, 6, .inl (fun _ => 0))), (q15, .inl (C 1, 6, .inl (fun _ => 0))), (q23, .inl (C 1, 6, .inl (fun _ => 0)))] t.heap ∧ va_D (va_A [(h0, .inr (8, [.null, .null, .null, .int 0, .null, .null, .null]))] sz) [(h0, .inr (8, [.ref p1, .ref p2, .ref p3, .int 0, .ref q7, .ref q15, .ref q23])), (q7, .inl (C 1, 6, .inl (fun _ => 0))), (q15, .inl (C 1, 6, .inl (fun _ => 0))), (q23, .inl (C 1, 6, .inl (fun _ => 0)))]) (va_A [(h0, .inr (8, [.null, .null, .null, .int 0, .null, .null, .null]))] sz)) 3 18 (va_A [(h0, .inr (8, [.null, .null, .null, .int 0, .null, .null, .null]))] sz) := by
  refine Met.ofW (cc := cX8_init) (maxL := 4) (ret := none) (by decide) rfl ?_
  intro p e s m args below meth c s₁ B hml hv
  obtain ⟨rfl, hsz, hP, hK, hN⟩ := hv
  have hx := B.exec
  have hb := B.bytes
  have hr := B.returns
  have hts := fun w h => atoms_spec (ws := Cond.code yX8_init cX8_init 4 none :: wsL_law) B.pre w (List.mem_cons_of_mem _ h)
  have hown : s.vm.findClass RX8 = some m.cls := findClass_of_methodNamed B.named
  have hin : meth.name = "<init>" := (name_of_methodNamed B.named B.method).1
  subst hsz
  have hD := (D_one (h0, .inr (8, [.null, .null, .null, .int 0, .null, .null, .null]))).self (sz := s.heap.size)
  generalize hAe : va_A [(h0, .inr (8, [.null, .null, .null, .int 0, .null, .null, .null]))] s.heap.size = A at hD ⊢
  have hA : ∀ q : Nat, s.heap.size ≤ q → A q := fun q h => by rw [← hAe]; exact Or.inr h
  have hS : va_S A s.heap s.heap [] := va_S.rf
  have hl := lv_entry ([.ref h0, .ref p1, .ref p2, .ref p3]) (n := 4) (Nat.le_of_ble_eq_true rfl)
  rw [lg_entry_eq]
  generalize (lg_sl ([.ref h0, .ref p1, .ref p2, .ref p3]) ++ List.replicate (4 - (lg_sl ([.ref h0, .ref p1, .ref p2, .ref p3])).length) Slot.unset).toArray = ls at hl ⊢
  have hl : lv_has ls 4 [(0, .ref h0), (1, .ref p1), (2, .ref p2), (3, .ref p3)] := hl
  refine lv_aload_n hx hb dX8_init_0 rfl (lv_at hl 0 rfl) ?_
  refine W.objInit hx hb hown (hts (.methodLink RX8 3 objectInit) kw_135) (hts (.instanceMethod objectInit) kw_11) (hts _ kw_12) rfl (by rw [hml]; exact hl.1) rfl dX8_init_1 (Nat.le_of_ble_eq_true rfl) (Nat.le_of_ble_eq_true rfl) ?_
  refine W.eq (g2 := F0 m 4 ls []) rfl ?_
  refine lv_aload_n hx hb dX8_init_4 rfl (lv_at hl 0 rfl) ?_
  refine lv_bipush (v := 6) hx hb dX8_init_5 (by decide) ?_
  refine va_newa (atype := .int) (ty := .int) (N' := 6) (n := 6) (a0 := (6, .inl (fun _ => 0))) hx hb (hts (.arrayClass .int) kw_63) rfl hK hP hD hS hA (nw_int 6) (by decide) (by decide) (show 6 * 4 ≤ 536870912 by omega) (by decide) (by decide) dX8_init_7 (fun q7 cA H hK9 hP hD hS => ?_)
  obtain rfl : cA = C 1 := nk_int hK9
  have hP : va_P D vwCl [(h0, .inr (8, [.null, .null, .null, .int 0, .null, .null, .null])), (q7, .inl (C 1, 6, .inl (fun _ => 0)))] H := hP
  have hD : va_D A [(h0, .inr (8, [.null, .null, .null, .int 0, .null, .null, .null])), (q7, .inl (C 1, 6, .inl (fun _ => 0)))] := hD
  refine W.widen (k := 1) (n := 6) (by omega) (by omega) ?_
  refine va_putF (D := D) (ci := 8) (v := .ref q7) (ty := (.array .int)) (C := RX8) (T := TX8) (N := 7) hx hb hts inlX8 tyX8 tyX8_ok nmX8 hown hK hP hD hS 0 rfl rfl 4 (by decide) (hts _ kw_136) (fun _ h9 => h9) rfl hin rfl (by decide +kernel) rfl rfl (Nat.le_of_ble_eq_true rfl) dX8_init_9 (fun H locs hP hD hS => ?_)
  have hP : va_P D vwCl [(h0, .inr (8, [.null, .null, .null, .int 0, .ref q7, .null, .null])), (q7, .inl (C 1, 6, .inl (fun _ => 0)))] H := hP
  have hD : va_D A [(h0, .inr (8, [.null, .null, .null, .int 0, .ref q7, .null, .null])), (q7, .inl (C 1, 6, .inl (fun _ => 0)))] := hD
  refine lv_aload_n hx hb dX8_init_12 rfl (lv_at hl 0 rfl) ?_
  refine lv_bipush (v := 6) hx hb dX8_init_13 (by decide) ?_
  refine va_newa (atype := .int) (ty := .int) (N' := 6) (n := 6) (a0 := (6, .inl (fun _ => 0))) hx hb (hts (.arrayClass .int) kw_63) rfl hK hP hD hS hA (nw_int 6) (by decide) (by decide) (show 6 * 4 ≤ 536870912 by omega) (by decide) (by decide) dX8_init_15 (fun q15 cA H hK9 hP hD hS => ?_)
  obtain rfl : cA = C 1 := nk_int hK9
  have hP : va_P D vwCl [(h0, .inr (8, [.null, .null, .null, .int 0, .ref q7, .null, .null])), (q7, .inl (C 1, 6, .inl (fun _ => 0))), (q15, .inl (C 1, 6, .inl (fun _ => 0)))] H := hP
  have hD : va_D A [(h0, .inr (8, [.null, .null, .null, .int 0, .ref q7, .null, .null])), (q7, .inl (C 1, 6, .inl (fun _ => 0))), (q15, .inl (C 1, 6, .inl (fun _ => 0)))] := hD
  refine W.widen (k := 2) (n := 12) (by omega) (by omega) ?_
  refine va_putF (D := D) (ci := 8) (v := .ref q15) (ty := (.array .int)) (C := RX8) (T := TX8) (N := 7) hx hb hts inlX8 tyX8 tyX8_ok nmX8 hown hK hP hD hS 0 rfl rfl 5 (by decide) (hts _ kw_137) (fun _ h9 => h9) rfl hin rfl (by decide +kernel) rfl rfl (Nat.le_of_ble_eq_true rfl) dX8_init_17 (fun H locs hP hD hS => ?_)
  have hP : va_P D vwCl [(h0, .inr (8, [.null, .null, .null, .int 0, .ref q7, .ref q15, .null])), (q7, .inl (C 1, 6, .inl (fun _ => 0))), (q15, .inl (C 1, 6, .inl (fun _ => 0)))] H := hP
  have hD : va_D A [(h0, .inr (8, [.null, .null, .null, .int 0, .ref q7, .ref q15, .null])), (q7, .inl (C 1, 6, .inl (fun _ => 0))), (q15, .inl (C 1, 6, .inl (fun _ => 0)))] := hD
  refine lv_aload_n hx hb dX8_init_20 rfl (lv_at hl 0 rfl) ?_
  refine lv_bipush (v := 6) hx hb dX8_init_21 (by decide) ?_
  refine va_newa (atype := .int) (ty := .int) (N' := 6) (n := 6) (a0 := (6, .inl (fun _ => 0))) hx hb (hts (.arrayClass .int) kw_63) rfl hK hP hD hS hA (nw_int 6) (by decide) (by decide) (show 6 * 4 ≤ 536870912 by omega) (by decide) (by decide) dX8_init_23 (fun q23 cA H hK9 hP hD hS => ?_)
  obtain rfl : cA = C 1 := nk_int hK9
  have hP : va_P D vwCl [(h0, .inr (8, [.null, .null, .null, .int 0, .ref q7, .ref q15, .null])), (q7, .inl (C 1, 6, .inl (fun _ => 0))), (q15, .inl (C 1, 6, .inl (fun _ => 0))), (q23, .inl (C 1, 6, .inl (fun _ => 0)))] H := hP
  have hD : va_D A [(h0, .inr (8, [.null, .null, .null, .int 0, .ref q7, .ref q15, .null])), (q7, .inl (C 1, 6, .inl (fun _ => 0))), (q15, .inl (C 1, 6, .inl (fun _ => 0))), (q23, .inl (C 1, 6, .inl (fun _ => 0)))] := hD
  refine W.widen (k := 3) (n := 18) (by omega) (by omega) ?_
  refine va_putF (D := D) (ci := 8) (v := .ref q23) (ty := (.array .int)) (C := RX8) (T := TX8) (N := 7) hx hb hts inlX8 tyX8 tyX8_ok nmX8 hown hK hP hD hS 0 rfl rfl 6 (by decide) (hts _ kw_138) (fun _ h9 => h9) rfl hin rfl (by decide +kernel) rfl rfl (Nat.le_of_ble_eq_true rfl) dX8_init_25 (fun H locs hP hD hS => ?_)
  have hP : va_P D vwCl [(h0, .inr (8, [.null, .null, .null, .int 0, .ref q7, .ref q15, .ref q23])), (q7, .inl (C 1, 6, .inl (fun _ => 0))), (q15, .inl (C 1, 6, .inl (fun _ => 0))), (q23, .inl (C 1, 6, .inl (fun _ => 0)))] H := hP
  have hD : va_D A [(h0, .inr (8, [.null, .null, .null, .int 0, .ref q7, .ref q15, .ref q23])), (q7, .inl (C 1, 6, .inl (fun _ => 0))), (q15, .inl (C 1, 6, .inl (fun _ => 0))), (q23, .inl (C 1, 6, .inl (fun _ => 0)))] := hD
  refine lv_aload_n hx hb dX8_init_28 rfl (lv_at hl 0 rfl) ?_
  refine lv_aload_n hx hb dX8_init_29 rfl (lv_at hl 1 rfl) ?_
  refine va_putF (D := D) (ci := 8) (v := .ref p1) (ty := (.object "DrumCoder$Drum")) (C := RX8) (T := TX8) (N := 7) hx hb hts inlX8 tyX8 tyX8_ok nmX8 hown hK hP hD hS 0 rfl rfl 0 (by decide) (hts _ kw_139) (fun _ h9 => h9) rfl hin rfl (by decide +kernel) rfl rfl (Nat.le_of_ble_eq_true rfl) dX8_init_30 (fun H locs hP hD hS => ?_)
  have hP : va_P D vwCl [(h0, .inr (8, [.ref p1, .null, .null, .int 0, .ref q7, .ref q15, .ref q23])), (q7, .inl (C 1, 6, .inl (fun _ => 0))), (q15, .inl (C 1, 6, .inl (fun _ => 0))), (q23, .inl (C 1, 6, .inl (fun _ => 0)))] H := hP
  have hD : va_D A [(h0, .inr (8, [.ref p1, .null, .null, .int 0, .ref q7, .ref q15, .ref q23])), (q7, .inl (C 1, 6, .inl (fun _ => 0))), (q15, .inl (C 1, 6, .inl (fun _ => 0))), (q23, .inl (C 1, 6, .inl (fun _ => 0)))] := hD
  refine lv_aload_n hx hb dX8_init_33 rfl (lv_at hl 0 rfl) ?_
  refine lv_aload_n hx hb dX8_init_34 rfl (lv_at hl 2 rfl) ?_
  refine va_putF (D := D) (ci := 8) (v := .ref p2) (ty := (.object "DrumCoder$Laying")) (C := RX8) (T := TX8) (N := 7) hx hb hts inlX8 tyX8 tyX8_ok nmX8 hown hK hP hD hS 0 rfl rfl 1 (by decide) (hts _ kw_140) (fun _ h9 => h9) rfl hin rfl (by decide +kernel) rfl rfl (Nat.le_of_ble_eq_true rfl) dX8_init_35 (fun H locs hP hD hS => ?_)
  have hP : va_P D vwCl [(h0, .inr (8, [.ref p1, .ref p2, .null, .int 0, .ref q7, .ref q15, .ref q23])), (q7, .inl (C 1, 6, .inl (fun _ => 0))), (q15, .inl (C 1, 6, .inl (fun _ => 0))), (q23, .inl (C 1, 6, .inl (fun _ => 0)))] H := hP
  have hD : va_D A [(h0, .inr (8, [.ref p1, .ref p2, .null, .int 0, .ref q7, .ref q15, .ref q23])), (q7, .inl (C 1, 6, .inl (fun _ => 0))), (q15, .inl (C 1, 6, .inl (fun _ => 0))), (q23, .inl (C 1, 6, .inl (fun _ => 0)))] := hD
  refine lv_aload_n hx hb dX8_init_38 rfl (lv_at hl 0 rfl) ?_
  refine lv_aload_n hx hb dX8_init_39 rfl (lv_at hl 3 rfl) ?_
  refine va_putF (D := D) (ci := 8) (v := .ref p3) (ty := (.object "DrumCoder$Course")) (C := RX8) (T := TX8) (N := 7) hx hb hts inlX8 tyX8 tyX8_ok nmX8 hown hK hP hD hS 0 rfl rfl 2 (by decide) (hts _ kw_141) (fun _ h9 => h9) rfl hin rfl (by decide +kernel) rfl rfl (Nat.le_of_ble_eq_true rfl) dX8_init_40 (fun H locs hP hD hS => ?_)
  have hP : va_P D vwCl [(h0, .inr (8, [.ref p1, .ref p2, .ref p3, .int 0, .ref q7, .ref q15, .ref q23])), (q7, .inl (C 1, 6, .inl (fun _ => 0))), (q15, .inl (C 1, 6, .inl (fun _ => 0))), (q23, .inl (C 1, 6, .inl (fun _ => 0)))] H := hP
  have hD : va_D A [(h0, .inr (8, [.ref p1, .ref p2, .ref p3, .int 0, .ref q7, .ref q15, .ref q23])), (q7, .inl (C 1, 6, .inl (fun _ => 0))), (q15, .inl (C 1, 6, .inl (fun _ => 0))), (q23, .inl (C 1, 6, .inl (fun _ => 0)))] := hD
  exact W.vret hx hb hr (fun t ht hW => ⟨⟨(), rfl, trivial, q7, q15, q23, by rw [ht]; exact hP, hD⟩, hS.F ht⟩) hS.2.2 dX8_init_43
abbrev rk_X4 : Room := { frames := 1, cells := 3, slots := 24, locals := 12 }
set_option maxHeartbeats 4000000 in
set_option maxRecDepth 100000 in
theorem kc_X4 (l : Launch) (D : va_G) (C : Nat → ClassId) (h0  : Nat) (sz : Nat) : Met l yX4_init (Cond.code yX4_init cX4_init 1 none :: wsL_law) rk_X4 (va_Pc [.ref h0] (fun U => U.heap.size = sz ∧ va_P D vwCl [(h0, .inr (4, [.int 0, .null, .null, .null]))] U.heap ∧ va_K D vwCl (tyL C) U ∧ NX U)) (va_Qv (fun _ : Unit => True) (fun _ t => ∃ (q7 : Nat) (q15 : Nat) (q23 : Nat), va_P D vwCl [(h0, .inr (4, [.int 0, .ref q7, .ref q15, .ref q23])), (q7, .inl (C 1, 8, .inl (fun _ => 0))), (q15, .inl (C 1, 8, .inl (fun _ => 0))), (q23, .inl (C 1, 8, .inl (fun _ => 0)))] t.heap ∧ va_D (va_A [(h0, .inr (4, [.int 0, .null, .null, .null]))] sz) [(h0, .inr (4, [.int 0, .ref q7, .ref q15, .ref q23])), (q7, .inl (C 1, 8, .inl (fun _ => 0))), (q15, .inl (C 1, 8, .inl (fun _ => 0))), (q23, .inl (C 1, 8, .inl (fun _ => 0)))]) (va_A [(h0, .inr (4, [.int 0, .null, .null, .null]))] sz)) 3 24 (va_A [(h0, .inr (4, [.int 0, .null, .null, .null]))] sz) := by
  refine Met.ofW (cc := cX4_init) (maxL := 1) (ret := none) (by decide) rfl ?_
  intro p e s m args below meth c s₁ B hml hv
  obtain ⟨rfl, hsz, hP, hK, hN⟩ := hv
  have hx := B.exec
  have hb := B.bytes
  have hr := B.returns
  have hts := fun w h => atoms_spec (ws := Cond.code yX4_init cX4_init 1 none :: wsL_law) B.pre w (List.mem_cons_of_mem _ h)
  have hown : s.vm.findClass RX4 = some m.cls := findClass_of_methodNamed B.named
  have hin : meth.name = "<init>" := (name_of_methodNamed B.named B.method).1
  subst hsz
  have hD := (D_one (h0, .inr (4, [.int 0, .null, .null, .null]))).self (sz := s.heap.size)
  generalize hAe : va_A [(h0, .inr (4, [.int 0, .null, .null, .null]))] s.heap.size = A at hD ⊢
  have hA : ∀ q : Nat, s.heap.size ≤ q → A q := fun q h => by rw [← hAe]; exact Or.inr h
  have hS : va_S A s.heap s.heap [] := va_S.rf
  have hl := lv_entry ([.ref h0]) (n := 1) (Nat.le_of_ble_eq_true rfl)
  rw [lg_entry_eq]
  generalize (lg_sl ([.ref h0]) ++ List.replicate (1 - (lg_sl ([.ref h0])).length) Slot.unset).toArray = ls at hl ⊢
  have hl : lv_has ls 1 [(0, .ref h0)] := hl
  refine lv_aload_n hx hb dX4_init_0 rfl (lv_at hl 0 rfl) ?_
  refine W.objInit hx hb hown (hts (.methodLink RX4 3 objectInit) kw_144) (hts (.instanceMethod objectInit) kw_11) (hts _ kw_12) rfl (by rw [hml]; exact hl.1) rfl dX4_init_1 (Nat.le_of_ble_eq_true rfl) (Nat.le_of_ble_eq_true rfl) ?_
  refine W.eq (g2 := F0 m 4 ls []) rfl ?_
  refine lv_aload_n hx hb dX4_init_4 rfl (lv_at hl 0 rfl) ?_
  refine lv_bipush (v := 8) hx hb dX4_init_5 (by decide) ?_
  refine va_newa (atype := .int) (ty := .int) (N' := 8) (n := 8) (a0 := (8, .inl (fun _ => 0))) hx hb (hts (.arrayClass .int) kw_63) rfl hK hP hD hS hA (nw_int 8) (by decide) (by decide) (show 8 * 4 ≤ 536870912 by omega) (by decide) (by decide) dX4_init_7 (fun q7 cA H hK9 hP hD hS => ?_)
  obtain rfl : cA = C 1 := nk_int hK9
  have hP : va_P D vwCl [(h0, .inr (4, [.int 0, .null, .null, .null])), (q7, .inl (C 1, 8, .inl (fun _ => 0)))] H := hP
  have hD : va_D A [(h0, .inr (4, [.int 0, .null, .null, .null])), (q7, .inl (C 1, 8, .inl (fun _ => 0)))] := hD
  refine W.widen (k := 1) (n := 8) (by omega) (by omega) ?_
  refine va_putF (D := D) (ci := 4) (v := .ref q7) (ty := (.array .int)) (C := RX4) (T := TX4) (N := 4) hx hb hts inlX4 tyX4 tyX4_ok nmX4 hown hK hP hD hS 0 rfl rfl 1 (by decide) (hts _ kw_145) (fun _ h9 => h9) rfl hin rfl (by decide +kernel) rfl rfl (Nat.le_of_ble_eq_true rfl) dX4_init_9 (fun H locs hP hD hS => ?_)
  have hP : va_P D vwCl [(h0, .inr (4, [.int 0, .ref q7, .null, .null])), (q7, .inl (C 1, 8, .inl (fun _ => 0)))] H := hP
  have hD : va_D A [(h0, .inr (4, [.int 0, .ref q7, .null, .null])), (q7, .inl (C 1, 8, .inl (fun _ => 0)))] := hD
  refine lv_aload_n hx hb dX4_init_12 rfl (lv_at hl 0 rfl) ?_
  refine lv_bipush (v := 8) hx hb dX4_init_13 (by decide) ?_
  refine va_newa (atype := .int) (ty := .int) (N' := 8) (n := 8) (a0 := (8, .inl (fun _ => 0))) hx hb (hts (.arrayClass .int) kw_63) rfl hK hP hD hS hA (nw_int 8) (by decide) (by decide) (show 8 * 4 ≤ 536870912 by omega) (by decide) (by decide) dX4_init_15 (fun q15 cA H hK9 hP hD hS => ?_)
  obtain rfl : cA = C 1 := nk_int hK9
  have hP : va_P D vwCl [(h0, .inr (4, [.int 0, .ref q7, .null, .null])), (q7, .inl (C 1, 8, .inl (fun _ => 0))), (q15, .inl (C 1, 8, .inl (fun _ => 0)))] H := hP
  have hD : va_D A [(h0, .inr (4, [.int 0, .ref q7, .null, .null])), (q7, .inl (C 1, 8, .inl (fun _ => 0))), (q15, .inl (C 1, 8, .inl (fun _ => 0)))] := hD
  refine W.widen (k := 2) (n := 16) (by omega) (by omega) ?_
  refine va_putF (D := D) (ci := 4) (v := .ref q15) (ty := (.array .int)) (C := RX4) (T := TX4) (N := 4) hx hb hts inlX4 tyX4 tyX4_ok nmX4 hown hK hP hD hS 0 rfl rfl 2 (by decide) (hts _ kw_146) (fun _ h9 => h9) rfl hin rfl (by decide +kernel) rfl rfl (Nat.le_of_ble_eq_true rfl) dX4_init_17 (fun H locs hP hD hS => ?_)
  have hP : va_P D vwCl [(h0, .inr (4, [.int 0, .ref q7, .ref q15, .null])), (q7, .inl (C 1, 8, .inl (fun _ => 0))), (q15, .inl (C 1, 8, .inl (fun _ => 0)))] H := hP
  have hD : va_D A [(h0, .inr (4, [.int 0, .ref q7, .ref q15, .null])), (q7, .inl (C 1, 8, .inl (fun _ => 0))), (q15, .inl (C 1, 8, .inl (fun _ => 0)))] := hD
  refine lv_aload_n hx hb dX4_init_20 rfl (lv_at hl 0 rfl) ?_
  refine lv_bipush (v := 8) hx hb dX4_init_21 (by decide) ?_
  refine va_newa (atype := .int) (ty := .int) (N' := 8) (n := 8) (a0 := (8, .inl (fun _ => 0))) hx hb (hts (.arrayClass .int) kw_63) rfl hK hP hD hS hA (nw_int 8) (by decide) (by decide) (show 8 * 4 ≤ 536870912 by omega) (by decide) (by decide) dX4_init_23 (fun q23 cA H hK9 hP hD hS => ?_)
  obtain rfl : cA = C 1 := nk_int hK9
  have hP : va_P D vwCl [(h0, .inr (4, [.int 0, .ref q7, .ref q15, .null])), (q7, .inl (C 1, 8, .inl (fun _ => 0))), (q15, .inl (C 1, 8, .inl (fun _ => 0))), (q23, .inl (C 1, 8, .inl (fun _ => 0)))] H := hP
  have hD : va_D A [(h0, .inr (4, [.int 0, .ref q7, .ref q15, .null])), (q7, .inl (C 1, 8, .inl (fun _ => 0))), (q15, .inl (C 1, 8, .inl (fun _ => 0))), (q23, .inl (C 1, 8, .inl (fun _ => 0)))] := hD
  refine W.widen (k := 3) (n := 24) (by omega) (by omega) ?_
  refine va_putF (D := D) (ci := 4) (v := .ref q23) (ty := (.array .int)) (C := RX4) (T := TX4) (N := 4) hx hb hts inlX4 tyX4 tyX4_ok nmX4 hown hK hP hD hS 0 rfl rfl 3 (by decide) (hts _ kw_147) (fun _ h9 => h9) rfl hin rfl (by decide +kernel) rfl rfl (Nat.le_of_ble_eq_true rfl) dX4_init_25 (fun H locs hP hD hS => ?_)
  have hP : va_P D vwCl [(h0, .inr (4, [.int 0, .ref q7, .ref q15, .ref q23])), (q7, .inl (C 1, 8, .inl (fun _ => 0))), (q15, .inl (C 1, 8, .inl (fun _ => 0))), (q23, .inl (C 1, 8, .inl (fun _ => 0)))] H := hP
  have hD : va_D A [(h0, .inr (4, [.int 0, .ref q7, .ref q15, .ref q23])), (q7, .inl (C 1, 8, .inl (fun _ => 0))), (q15, .inl (C 1, 8, .inl (fun _ => 0))), (q23, .inl (C 1, 8, .inl (fun _ => 0)))] := hD
  exact W.vret hx hb hr (fun t ht hW => ⟨⟨(), rfl, trivial, q7, q15, q23, by rw [ht]; exact hP, hD⟩, hS.F ht⟩) hS.2.2 dX4_init_28
