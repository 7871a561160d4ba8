/-! constructors: a row filled, laying -/
theorem D_A {A : Nat → Prop} {a : Nat} (h : A a) (x : va_E) : va_D A [(a, x)] := ⟨(D_one (a, x)).1, fun k q hk => by
  have h1 : k < 1 := (List.getElem?_eq_some_iff.mp hk).1
  rw [show k = 0 by omega] at hk
  cases hk
  exact h⟩
set_option maxHeartbeats 4000000 in
set_option maxRecDepth 100000 in
theorem kc_fill (l : Launch) (D : va_G) (C : Nat → ClassId) (a sz : Nat) {n : Nat} (hn : n < 2000) (f : Nat → Int32) (v : Int32) : Met l yJ7_fill_53178 (Cond.code yJ7_fill_53178 cJ7_fill_53178 4 none :: wsL_law) rm_J7_fill_53178 (va_Pc [.ref a, .int v] (fun U => U.heap.size = sz ∧ va_P D vwCl [(a, .inl (C 1, n, .inl f))] U.heap ∧ va_K D vwCl (tyL C) U)) (va_Qv (fun _ : Unit => True) (fun _ t => ∃ g : Nat → Int32, (∀ j, j < n → g j = v) ∧ va_P D vwCl [(a, .inl (C 1, n, .inl g))] t.heap ∧ va_D (va_A [(a, .inl (C 1, n, .inl f))] sz) [(a, .inl (C 1, n, .inl g))]) (va_A [(a, .inl (C 1, n, .inl f))] sz)) 0 0 (va_A [(a, .inl (C 1, n, .inl f))] sz) := by
  refine Met.ofW (cc := cJ7_fill_53178) (maxL := 4) (ret := none) (by decide) rfl ?_
  intro p e s m args below meth c s₁ B hml hv
  obtain ⟨rfl, hsz, hP, hK⟩ := hv
  have hx := B.exec
  have hb := B.bytes
  have hr := B.returns
  subst hsz
  have hAa : va_A [(a, .inl (C 1, n, .inl f))] s.heap.size a := Or.inl ⟨0, _, rfl⟩
  generalize va_A [(a, .inl (C 1, n, .inl f))] s.heap.size = A at hAa ⊢
  have hS : va_S A s.heap s.heap [] := va_S.rf
  have hl := lv_entry ([.ref a, .int v]) (n := 4) (Nat.le_of_ble_eq_true rfl)
  rw [lg_entry_eq]
  generalize (lg_sl ([.ref a, .int v]) ++ List.replicate (4 - (lg_sl ([.ref a, .int v])).length) Slot.unset).toArray = ls at hl ⊢
  have hl : lv_has ls 4 [(0, .ref a), (1, .int v)] := hl
  have loop : ∀ (k i : Nat) (g : Nat → Int32) (H : Heap) (locs : List Loc) (ls : Array Slot), i + k = n → (∀ j, j < i → g j = v) → va_P D vwCl [(a, .inl (C 1, n, .inl g))] H → va_S A s.heap H locs → lv_has ls 4 [(2, .int (nI i)), (0, .ref a), (1, .int v), (3, .int (nI n))] → W p l e rm_J7_fill_53178 s m [Value.ref a, Value.int v].toArray below meth c H locs 0 0 (MQ below (va_Qv (fun _ : Unit => True) (fun _ t => ∃ g : Nat → Int32, (∀ j, j < n → g j = v) ∧ va_P D vwCl [(a, .inl (C 1, n, .inl g))] t.heap ∧ va_D A [(a, .inl (C 1, n, .inl g))]) A) [Value.ref a, Value.int v].toArray s 0 0 A) (F0 m 5 ls []) := by
    intro k
    induction k with
    | zero =>
      intro i g H locs ls hi hg hP hS hl
      refine lv_iload_n hx hb dJ7_fill_53178_5 rfl (lv_at hl 0 rfl) ?_
      refine lv_iload_n hx hb dJ7_fill_53178_6 rfl (lv_at hl 3 rfl) ?_
      refine lv_icmp_ge (tgt := 20) hx hb dJ7_fill_53178_7 (by decide) (fun c9 => ?_) (fun c9 => absurd (nI_le (by omega) (by omega)) c9)
      exact W.vret hx hb hr (fun t ht hW => ⟨⟨(), rfl, trivial, g, fun j hj => hg j (by omega), by rw [ht]; exact hP, D_A hAa _⟩, hS.F ht⟩) hS.2.2 dJ7_fill_53178_20
    | succ k ih =>
      intro i g H locs ls hi hg hP hS hl
      refine lv_iload_n hx hb dJ7_fill_53178_5 rfl (lv_at hl 0 rfl) ?_
      refine lv_iload_n hx hb dJ7_fill_53178_6 rfl (lv_at hl 3 rfl) ?_
      refine lv_icmp_ge (tgt := 20) hx hb dJ7_fill_53178_7 (by decide) (fun c9 => absurd c9 (nI_ge (by omega) (by omega))) (fun c9 => ?_)
      refine lv_aload_n hx hb dJ7_fill_53178_10 rfl (lv_at hl 1 rfl) ?_
      refine lv_iload_n hx hb dJ7_fill_53178_11 rfl (lv_at hl 0 rfl) ?_
      refine lv_iload_n hx hb dJ7_fill_53178_12 rfl (lv_at hl 2 rfl) ?_
      refine va_iast hx hb hK hP (D_A hAa _) hS 0 1 rfl rfl (vp_in_nI (show i < n by omega) (by omega)) dJ7_fill_53178_13 (fun H locs hP hD hS => ?_)
      refine lv_iinc (v := nI (i + 1)) (lv' := [(2, .int (nI (i + 1))), (0, .ref a), (1, .int v), (3, .int (nI n))]) hx hb dJ7_fill_53178_14 hl (k := 0) rfl (nI_1 i) (by decide) rfl (fun ls hl => ?_)
      refine lv_goto (tgt := 5) hx hb dJ7_fill_53178_17 (by decide) ?_
      refine ih (i + 1) (upd g (nI i).toNatClampNeg v) H locs ls (by omega) (fun j hj => ?_) hP hS hl
      rw [nI_clamp (by omega), u_is]
      by_cases q : j = i
      · rw [if_pos q]
      · rw [if_neg q]; exact hg j (by omega)
  refine lv_iconst (v := 0) hx hb dJ7_fill_53178_0 (by decide) ?_
  refine lv_istore_n (lv' := [(2, .int 0), (0, .ref a), (1, .int v)]) hx hb dJ7_fill_53178_1 rfl hl (by decide) rfl (fun ls hl => ?_)
  refine lv_aload_n hx hb dJ7_fill_53178_2 rfl (lv_at hl 1 rfl) ?_
  refine va_alen hx hb hK hP 0 1 rfl rfl (v := nI n) rfl dJ7_fill_53178_3 ?_
  refine lv_istore_n (lv' := [(3, .int (nI n)), (2, .int 0), (0, .ref a), (1, .int v)]) hx hb dJ7_fill_53178_4 rfl hl (by decide) rfl (fun ls hl => ?_)
  exact loop n 0 f s.heap [] ls (by omega) (fun j hj => by cases hj) hP hS (lv_sub hl [1, 2, 3, 0] rfl)
theorem kc_fillw {R : Room} {s : State} {args : Array Value} (hts : ∀ w ∈ wsL_law, w.before args s = true) (hR : rm_J7_fill_53178.frames + 1 ≤ R.frames ∧ 8 + (4 + 11) + rm_J7_fill_53178.locals ≤ R.locals) : CallB R s args RX3 40 yJ7_fill_53178 cJ7_fill_53178 4 none (Cond.code yJ7_fill_53178 cJ7_fill_53178 4 none :: wsL_law) rm_J7_fill_53178 0 0 2 ∧ (Cond.static yJ7_fill_53178).before args s = true := va_cwS 2 hts (gd_S kw_109 kw_110 kw_111 kw_112) rfl rfl rfl (by decide +kernel) hR
abbrev rk_X3 : Room := { frames := 1, cells := 11, slots := 616, locals := 23 }
set_option maxHeartbeats 4000000 in
set_option maxRecDepth 100000 in
theorem kc_X3 (l : Launch) (D : va_G) (C : Nat → ClassId) (h0 p1 : Nat) (sz : Nat) : Met l yX3_init (Cond.code yX3_init cX3_init 2 none :: wsL_law) rk_X3 (va_Pc [.ref h0, .ref p1] (fun U => U.heap.size = sz ∧ va_P D vwCl [(h0, .inr (3, [.null, .int 0, .null, .null, .null, .null, .null, .null, .null]))] U.heap ∧ va_K D vwCl (tyL C) U ∧ NX U)) (va_Qv (fun _ : Unit => True) (fun _ t => ∃ (q7 : Nat) (q15 : Nat) (q23 : Nat) (q32 : Nat) (q41 : Nat) (q50 : Nat) (r : Nat → Nat) (q59 : Nat) (g74 : Nat → Int32) (g82 : Nat → Int32), (∀ j, j < 128 → g74 j = (-1)) ∧ (∀ j, j < 64 → g82 j = 1) ∧ va_P D vwCl [(h0, .inr (3, [.ref p1, .int 0, .ref q7, .ref q15, .ref q23, .ref q32, .ref q41, .ref q50, .ref q59])), (q7, .inl (C 1, 64, .inl (fun _ => 0))), (q15, .inl (C 1, 64, .inl (fun _ => 0))), (q41, .inl (C 2, 128, .inl (fun _ => 0))), (q50, .inl (C 4, 4, .inr (.inr (.inr (.inr (fun i => if i < 4 then some (r i) else none)))))), ((r 0), .inl (C 1, 40, .inl (fun _ => 0))), ((r 1), .inl (C 1, 40, .inl (fun _ => 0))), ((r 2), .inl (C 1, 40, .inl (fun _ => 0))), ((r 3), .inl (C 1, 40, .inl (fun _ => 0))), (q59, .inl (C 2, 4, .inl (fun _ => 0))), (q32, .inl (C 1, 128, .inl g74)), (q23, .inl (C 1, 64, .inl g82))] t.heap ∧ va_D (va_A [(h0, .inr (3, [.null, .int 0, .null, .null, .null, .null, .null, .null, .null]))] sz) [(h0, .inr (3, [.ref p1, .int 0, .ref q7, .ref q15, .ref q23, .ref q32, .ref q41, .ref q50, .ref q59])), (q7, .inl (C 1, 64, .inl (fun _ => 0))), (q15, .inl (C 1, 64, .inl (fun _ => 0))), (q41, .inl (C 2, 128, .inl (fun _ => 0))), (q50, .inl (C 4, 4, .inr (.inr (.inr (.inr (fun i => if i < 4 then some (r i) else none)))))), ((r 0), .inl (C 1, 40, .inl (fun _ => 0))), ((r 1), .inl (C 1, 40, .inl (fun _ => 0))), ((r 2), .inl (C 1, 40, .inl (fun _ => 0))), ((r 3), .inl (C 1, 40, .inl (fun _ => 0))), (q59, .inl (C 2, 4, .inl (fun _ => 0))), (q32, .inl (C 1, 128, .inl g74)), (q23, .inl (C 1, 64, .inl g82))]) (va_A [(h0, .inr (3, [.null, .int 0, .null, .null, .null, .null, .null, .null, .null]))] sz)) 11 616 (va_A [(h0, .inr (3, [.null, .int 0, .null, .null, .null, .null, .null, .null, .null]))] sz) := by
  refine Met.ofW (cc := cX3_init) (maxL := 2) (ret := none) (by decide) rfl ?_
  intro p e s m args below meth c s₁ B hml hv
  obtain ⟨rfl, hsz, hP, hK, hN⟩ := hv
  have hx := B.exec
  have hb := B.bytes
  have hr := B.returns
  have hts := fun w h => atoms_spec (ws := Cond.code yX3_init cX3_init 2 none :: wsL_law) B.pre w (List.mem_cons_of_mem _ h)
  have hown : s.vm.findClass RX3 = some m.cls := findClass_of_methodNamed B.named
  have hin : meth.name = "<init>" := (name_of_methodNamed B.named B.method).1
  subst hsz
  have hD := (D_one (h0, .inr (3, [.null, .int 0, .null, .null, .null, .null, .null, .null, .null]))).self (sz := s.heap.size)
  generalize hAe : va_A [(h0, .inr (3, [.null, .int 0, .null, .null, .null, .null, .null, .null, .null]))] s.heap.size = A at hD ⊢
  have hA : ∀ q : Nat, s.heap.size ≤ q → A q := fun q h => by rw [← hAe]; exact Or.inr h
  have hS : va_S A s.heap s.heap [] := va_S.rf
  have hl := lv_entry ([.ref h0, .ref p1]) (n := 2) (Nat.le_of_ble_eq_true rfl)
  rw [lg_entry_eq]
  generalize (lg_sl ([.ref h0, .ref p1]) ++ List.replicate (2 - (lg_sl ([.ref h0, .ref p1])).length) Slot.unset).toArray = ls at hl ⊢
  have hl : lv_has ls 2 [(0, .ref h0), (1, .ref p1)] := hl
  refine lv_aload_n hx hb dX3_init_0 rfl (lv_at hl 0 rfl) ?_
  refine W.objInit hx hb hown (hts (.methodLink RX3 3 objectInit) kw_98) (hts (.instanceMethod objectInit) kw_11) (hts _ kw_12) rfl (by rw [hml]; exact hl.1) rfl dX3_init_1 (Nat.le_of_ble_eq_true rfl) (Nat.le_of_ble_eq_true rfl) ?_
  refine W.eq (g2 := F0 m 4 ls []) rfl ?_
  refine lv_aload_n hx hb dX3_init_4 rfl (lv_at hl 0 rfl) ?_
  refine lv_bipush (v := 64) hx hb dX3_init_5 (by decide) ?_
  refine va_newa (atype := .int) (ty := .int) (N' := 64) (n := 64) (a0 := (64, .inl (fun _ => 0))) hx hb (hts (.arrayClass .int) kw_63) rfl hK hP hD hS hA (nw_int 64) (by decide) (by decide) (show 64 * 4 ≤ 536870912 by omega) (by decide) (by decide) dX3_init_7 (fun q7 cA H hK9 hP hD hS => ?_)
  obtain rfl : cA = C 1 := nk_int hK9
  have hP : va_P D vwCl [(h0, .inr (3, [.null, .int 0, .null, .null, .null, .null, .null, .null, .null])), (q7, .inl (C 1, 64, .inl (fun _ => 0)))] H := hP
  have hD : va_D A [(h0, .inr (3, [.null, .int 0, .null, .null, .null, .null, .null, .null, .null])), (q7, .inl (C 1, 64, .inl (fun _ => 0)))] := hD
  refine W.widen (k := 1) (n := 64) (by omega) (by omega) ?_
  refine va_putF (D := D) (ci := 3) (v := .ref q7) (ty := (.array .int)) (C := RX3) (T := TX3) (N := 9) hx hb hts inlX3 tyX3 tyX3_ok nmX3 hown hK hP hD hS 0 rfl rfl 2 (by decide) (hts _ kw_99) (fun _ h9 => h9) rfl hin rfl (by decide +kernel) rfl rfl (Nat.le_of_ble_eq_true rfl) dX3_init_9 (fun H locs hP hD hS => ?_)
  have hP : va_P D vwCl [(h0, .inr (3, [.null, .int 0, .ref q7, .null, .null, .null, .null, .null, .null])), (q7, .inl (C 1, 64, .inl (fun _ => 0)))] H := hP
  have hD : va_D A [(h0, .inr (3, [.null, .int 0, .ref q7, .null, .null, .null, .null, .null, .null])), (q7, .inl (C 1, 64, .inl (fun _ => 0)))] := hD
  refine lv_aload_n hx hb dX3_init_12 rfl (lv_at hl 0 rfl) ?_
  refine lv_bipush (v := 64) hx hb dX3_init_13 (by decide) ?_
  refine va_newa (atype := .int) (ty := .int) (N' := 64) (n := 64) (a0 := (64, .inl (fun _ => 0))) hx hb (hts (.arrayClass .int) kw_63) rfl hK hP hD hS hA (nw_int 64) (by decide) (by decide) (show 64 * 4 ≤ 536870912 by omega) (by decide) (by decide) dX3_init_15 (fun q15 cA H hK9 hP hD hS => ?_)
  obtain rfl : cA = C 1 := nk_int hK9
  have hP : va_P D vwCl [(h0, .inr (3, [.null, .int 0, .ref q7, .null, .null, .null, .null, .null, .null])), (q7, .inl (C 1, 64, .inl (fun _ => 0))), (q15, .inl (C 1, 64, .inl (fun _ => 0)))] H := hP
  have hD : va_D A [(h0, .inr (3, [.null, .int 0, .ref q7, .null, .null, .null, .null, .null, .null])), (q7, .inl (C 1, 64, .inl (fun _ => 0))), (q15, .inl (C 1, 64, .inl (fun _ => 0)))] := hD
  refine W.widen (k := 2) (n := 128) (by omega) (by omega) ?_
  refine va_putF (D := D) (ci := 3) (v := .ref q15) (ty := (.array .int)) (C := RX3) (T := TX3) (N := 9) hx hb hts inlX3 tyX3 tyX3_ok nmX3 hown hK hP hD hS 0 rfl rfl 3 (by decide) (hts _ kw_100) (fun _ h9 => h9) rfl hin rfl (by decide +kernel) rfl rfl (Nat.le_of_ble_eq_true rfl) dX3_init_17 (fun H locs hP hD hS => ?_)
  have hP : va_P D vwCl [(h0, .inr (3, [.null, .int 0, .ref q7, .ref q15, .null, .null, .null, .null, .null])), (q7, .inl (C 1, 64, .inl (fun _ => 0))), (q15, .inl (C 1, 64, .inl (fun _ => 0)))] H := hP
  have hD : va_D A [(h0, .inr (3, [.null, .int 0, .ref q7, .ref q15, .null, .null, .null, .null, .null])), (q7, .inl (C 1, 64, .inl (fun _ => 0))), (q15, .inl (C 1, 64, .inl (fun _ => 0)))] := hD
  refine lv_aload_n hx hb dX3_init_20 rfl (lv_at hl 0 rfl) ?_
  refine lv_bipush (v := 64) hx hb dX3_init_21 (by decide) ?_
  refine va_newa (atype := .int) (ty := .int) (N' := 64) (n := 64) (a0 := (64, .inl (fun _ => 0))) hx hb (hts (.arrayClass .int) kw_63) rfl hK hP hD hS hA (nw_int 64) (by decide) (by decide) (show 64 * 4 ≤ 536870912 by omega) (by decide) (by decide) dX3_init_23 (fun q23 cA H hK9 hP hD hS => ?_)
  obtain rfl : cA = C 1 := nk_int hK9
  have hP : va_P D vwCl [(h0, .inr (3, [.null, .int 0, .ref q7, .ref q15, .null, .null, .null, .null, .null])), (q7, .inl (C 1, 64, .inl (fun _ => 0))), (q15, .inl (C 1, 64, .inl (fun _ => 0))), (q23, .inl (C 1, 64, .inl (fun _ => 0)))] H := hP
  have hD : va_D A [(h0, .inr (3, [.null, .int 0, .ref q7, .ref q15, .null, .null, .null, .null, .null])), (q7, .inl (C 1, 64, .inl (fun _ => 0))), (q15, .inl (C 1, 64, .inl (fun _ => 0))), (q23, .inl (C 1, 64, .inl (fun _ => 0)))] := hD
  refine W.widen (k := 3) (n := 192) (by omega) (by omega) ?_
  refine va_putF (D := D) (ci := 3) (v := .ref q23) (ty := (.array .int)) (C := RX3) (T := TX3) (N := 9) hx hb hts inlX3 tyX3 tyX3_ok nmX3 hown hK hP hD hS 0 rfl rfl 4 (by decide) (hts _ kw_101) (fun _ h9 => h9) rfl hin rfl (by decide +kernel) rfl rfl (Nat.le_of_ble_eq_true rfl) dX3_init_25 (fun H locs hP hD hS => ?_)
  have hP : va_P D vwCl [(h0, .inr (3, [.null, .int 0, .ref q7, .ref q15, .ref q23, .null, .null, .null, .null])), (q7, .inl (C 1, 64, .inl (fun _ => 0))), (q15, .inl (C 1, 64, .inl (fun _ => 0))), (q23, .inl (C 1, 64, .inl (fun _ => 0)))] H := hP
  have hD : va_D A [(h0, .inr (3, [.null, .int 0, .ref q7, .ref q15, .ref q23, .null, .null, .null, .null])), (q7, .inl (C 1, 64, .inl (fun _ => 0))), (q15, .inl (C 1, 64, .inl (fun _ => 0))), (q23, .inl (C 1, 64, .inl (fun _ => 0)))] := hD
  refine lv_aload_n hx hb dX3_init_28 rfl (lv_at hl 0 rfl) ?_
  refine lv_sipush (v := 128) hx hb dX3_init_29 (by decide) ?_
  refine va_newa (atype := .int) (ty := .int) (N' := 128) (n := 128) (a0 := (128, .inl (fun _ => 0))) hx hb (hts (.arrayClass .int) kw_63) rfl hK hP hD hS hA (nw_int 128) (by decide) (by decide) (show 128 * 4 ≤ 536870912 by omega) (by decide) (by decide) dX3_init_32 (fun q32 cA H hK9 hP hD hS => ?_)
  obtain rfl : cA = C 1 := nk_int hK9
  have hP : va_P D vwCl [(h0, .inr (3, [.null, .int 0, .ref q7, .ref q15, .ref q23, .null, .null, .null, .null])), (q7, .inl (C 1, 64, .inl (fun _ => 0))), (q15, .inl (C 1, 64, .inl (fun _ => 0))), (q23, .inl (C 1, 64, .inl (fun _ => 0))), (q32, .inl (C 1, 128, .inl (fun _ => 0)))] H := hP
  have hD : va_D A [(h0, .inr (3, [.null, .int 0, .ref q7, .ref q15, .ref q23, .null, .null, .null, .null])), (q7, .inl (C 1, 64, .inl (fun _ => 0))), (q15, .inl (C 1, 64, .inl (fun _ => 0))), (q23, .inl (C 1, 64, .inl (fun _ => 0))), (q32, .inl (C 1, 128, .inl (fun _ => 0)))] := hD
  refine W.widen (k := 4) (n := 320) (by omega) (by omega) ?_
  refine va_putF (D := D) (ci := 3) (v := .ref q32) (ty := (.array .int)) (C := RX3) (T := TX3) (N := 9) hx hb hts inlX3 tyX3 tyX3_ok nmX3 hown hK hP hD hS 0 rfl rfl 5 (by decide) (hts _ kw_102) (fun _ h9 => h9) rfl hin rfl (by decide +kernel) rfl rfl (Nat.le_of_ble_eq_true rfl) dX3_init_34 (fun H locs hP hD hS => ?_)
  have hP : va_P D vwCl [(h0, .inr (3, [.null, .int 0, .ref q7, .ref q15, .ref q23, .ref q32, .null, .null, .null])), (q7, .inl (C 1, 64, .inl (fun _ => 0))), (q15, .inl (C 1, 64, .inl (fun _ => 0))), (q23, .inl (C 1, 64, .inl (fun _ => 0))), (q32, .inl (C 1, 128, .inl (fun _ => 0)))] H := hP
  have hD : va_D A [(h0, .inr (3, [.null, .int 0, .ref q7, .ref q15, .ref q23, .ref q32, .null, .null, .null])), (q7, .inl (C 1, 64, .inl (fun _ => 0))), (q15, .inl (C 1, 64, .inl (fun _ => 0))), (q23, .inl (C 1, 64, .inl (fun _ => 0))), (q32, .inl (C 1, 128, .inl (fun _ => 0)))] := hD
  refine lv_aload_n hx hb dX3_init_37 rfl (lv_at hl 0 rfl) ?_
  refine lv_sipush (v := 128) hx hb dX3_init_38 (by decide) ?_
  refine va_newa (atype := .boolean) (ty := .boolean) (N' := 128) (n := 128) (a0 := (128, .inl (fun _ => 0))) hx hb (hts (.arrayClass .boolean) kw_103) rfl hK hP hD hS hA (nw_boolean 128) (by decide) (by decide) (show 128 * 1 ≤ 536870912 by omega) (by decide) (by decide) dX3_init_41 (fun q41 cA H hK9 hP hD hS => ?_)
  obtain rfl : cA = C 2 := nk_boolean hK9
  have hP : va_P D vwCl [(h0, .inr (3, [.null, .int 0, .ref q7, .ref q15, .ref q23, .ref q32, .null, .null, .null])), (q7, .inl (C 1, 64, .inl (fun _ => 0))), (q15, .inl (C 1, 64, .inl (fun _ => 0))), (q23, .inl (C 1, 64, .inl (fun _ => 0))), (q32, .inl (C 1, 128, .inl (fun _ => 0))), (q41, .inl (C 2, 128, .inl (fun _ => 0)))] H := hP
  have hD : va_D A [(h0, .inr (3, [.null, .int 0, .ref q7, .ref q15, .ref q23, .ref q32, .null, .null, .null])), (q7, .inl (C 1, 64, .inl (fun _ => 0))), (q15, .inl (C 1, 64, .inl (fun _ => 0))), (q23, .inl (C 1, 64, .inl (fun _ => 0))), (q32, .inl (C 1, 128, .inl (fun _ => 0))), (q41, .inl (C 2, 128, .inl (fun _ => 0)))] := hD
  refine W.widen (k := 5) (n := 448) (by omega) (by omega) ?_
  refine va_putF (D := D) (ci := 3) (v := .ref q41) (ty := (.array .boolean)) (C := RX3) (T := TX3) (N := 9) hx hb hts inlX3 tyX3 tyX3_ok nmX3 hown hK hP hD hS 0 rfl rfl 6 (by decide) (hts _ kw_104) (fun _ h9 => h9) rfl hin rfl (by decide +kernel) rfl rfl (Nat.le_of_ble_eq_true rfl) dX3_init_43 (fun H locs hP hD hS => ?_)
  have hP : va_P D vwCl [(h0, .inr (3, [.null, .int 0, .ref q7, .ref q15, .ref q23, .ref q32, .ref q41, .null, .null])), (q7, .inl (C 1, 64, .inl (fun _ => 0))), (q15, .inl (C 1, 64, .inl (fun _ => 0))), (q23, .inl (C 1, 64, .inl (fun _ => 0))), (q32, .inl (C 1, 128, .inl (fun _ => 0))), (q41, .inl (C 2, 128, .inl (fun _ => 0)))] H := hP
  have hD : va_D A [(h0, .inr (3, [.null, .int 0, .ref q7, .ref q15, .ref q23, .ref q32, .ref q41, .null, .null])), (q7, .inl (C 1, 64, .inl (fun _ => 0))), (q15, .inl (C 1, 64, .inl (fun _ => 0))), (q23, .inl (C 1, 64, .inl (fun _ => 0))), (q32, .inl (C 1, 128, .inl (fun _ => 0))), (q41, .inl (C 2, 128, .inl (fun _ => 0)))] := hD
  refine lv_aload_n hx hb dX3_init_46 rfl (lv_at hl 0 rfl) ?_
  refine lv_iconst (v := 4) hx hb dX3_init_47 (by decide) ?_
  refine lv_bipush (v := 40) hx hb dX3_init_48 (by decide) ?_
  refine va_mna (X := [(h0, .inr (3, [.null, .int 0, .ref q7, .ref q15, .ref q23, .ref q32, .ref q41, .null, .null])), (q7, .inl (C 1, 64, .inl (fun _ => 0))), (q15, .inl (C 1, 64, .inl (fun _ => 0))), (q23, .inl (C 1, 64, .inl (fun _ => 0))), (q32, .inl (C 1, 128, .inl (fun _ => 0))), (q41, .inl (C 2, 128, .inl (fun _ => 0)))]) (L := []) (f := fun _ => .inl (C 1, 40, .inl (fun _ => 0))) (ty := .int) (cy := C 1) (n := 4) (k := 40) (N' := 4) (K' := 40) (z := (40, .inl (fun _ => 0))) hx hb hown (hts _ kw_105) hN.2.2.2.2.2.2 (hts (.arrayClass .int) kw_63) (nk_find hK) hK hP hD hS hA (by decide) (by decide) rfl rfl (show 4 * 4 ≤ 536870912 by omega) (show 40 * 4 ≤ 536870912 by omega) (show 40 ≤ 536870912 by omega) rfl rfl (by decide) (by decide) (fun _ => nk_inner _) dX3_init_50 (fun q50 r cA H hri _ hK9 hP hD hS => ?_)
  obtain rfl : cA = C 4 := nk_arr hK9
  have hP : va_P D vwCl [(h0, .inr (3, [.null, .int 0, .ref q7, .ref q15, .ref q23, .ref q32, .ref q41, .null, .null])), (q7, .inl (C 1, 64, .inl (fun _ => 0))), (q15, .inl (C 1, 64, .inl (fun _ => 0))), (q23, .inl (C 1, 64, .inl (fun _ => 0))), (q32, .inl (C 1, 128, .inl (fun _ => 0))), (q41, .inl (C 2, 128, .inl (fun _ => 0))), (q50, .inl (C 4, 4, .inr (.inr (.inr (.inr (fun i => if i < 4 then some (r i) else none)))))), ((r 0), .inl (C 1, 40, .inl (fun _ => 0))), ((r 1), .inl (C 1, 40, .inl (fun _ => 0))), ((r 2), .inl (C 1, 40, .inl (fun _ => 0))), ((r 3), .inl (C 1, 40, .inl (fun _ => 0)))] H := by simpa [va_pl, vr_up, List.range, List.range.loop] using hP
  have hD : va_D A [(h0, .inr (3, [.null, .int 0, .ref q7, .ref q15, .ref q23, .ref q32, .ref q41, .null, .null])), (q7, .inl (C 1, 64, .inl (fun _ => 0))), (q15, .inl (C 1, 64, .inl (fun _ => 0))), (q23, .inl (C 1, 64, .inl (fun _ => 0))), (q32, .inl (C 1, 128, .inl (fun _ => 0))), (q41, .inl (C 2, 128, .inl (fun _ => 0))), (q50, .inl (C 4, 4, .inr (.inr (.inr (.inr (fun i => if i < 4 then some (r i) else none)))))), ((r 0), .inl (C 1, 40, .inl (fun _ => 0))), ((r 1), .inl (C 1, 40, .inl (fun _ => 0))), ((r 2), .inl (C 1, 40, .inl (fun _ => 0))), ((r 3), .inl (C 1, 40, .inl (fun _ => 0)))] := by simpa [va_pl, vr_up, List.range, List.range.loop] using hD
  refine W.widen (k := 10) (n := 612) (by omega) (by omega) ?_
  refine va_putF (D := D) (ci := 3) (v := .ref q50) (ty := (.array (.array .int))) (C := RX3) (T := TX3) (N := 9) hx hb hts inlX3 tyX3 tyX3_ok nmX3 hown hK hP hD hS 0 rfl rfl 7 (by decide) (hts _ kw_106) (fun _ h9 => h9) rfl hin rfl (by decide +kernel) rfl rfl (Nat.le_of_ble_eq_true rfl) dX3_init_54 (fun H locs hP hD hS => ?_)
  have hP : va_P D vwCl [(h0, .inr (3, [.null, .int 0, .ref q7, .ref q15, .ref q23, .ref q32, .ref q41, .ref q50, .null])), (q7, .inl (C 1, 64, .inl (fun _ => 0))), (q15, .inl (C 1, 64, .inl (fun _ => 0))), (q23, .inl (C 1, 64, .inl (fun _ => 0))), (q32, .inl (C 1, 128, .inl (fun _ => 0))), (q41, .inl (C 2, 128, .inl (fun _ => 0))), (q50, .inl (C 4, 4, .inr (.inr (.inr (.inr (fun i => if i < 4 then some (r i) else none)))))), ((r 0), .inl (C 1, 40, .inl (fun _ => 0))), ((r 1), .inl (C 1, 40, .inl (fun _ => 0))), ((r 2), .inl (C 1, 40, .inl (fun _ => 0))), ((r 3), .inl (C 1, 40, .inl (fun _ => 0)))] H := hP
  have hD : va_D A [(h0, .inr (3, [.null, .int 0, .ref q7, .ref q15, .ref q23, .ref q32, .ref q41, .ref q50, .null])), (q7, .inl (C 1, 64, .inl (fun _ => 0))), (q15, .inl (C 1, 64, .inl (fun _ => 0))), (q23, .inl (C 1, 64, .inl (fun _ => 0))), (q32, .inl (C 1, 128, .inl (fun _ => 0))), (q41, .inl (C 2, 128, .inl (fun _ => 0))), (q50, .inl (C 4, 4, .inr (.inr (.inr (.inr (fun i => if i < 4 then some (r i) else none)))))), ((r 0), .inl (C 1, 40, .inl (fun _ => 0))), ((r 1), .inl (C 1, 40, .inl (fun _ => 0))), ((r 2), .inl (C 1, 40, .inl (fun _ => 0))), ((r 3), .inl (C 1, 40, .inl (fun _ => 0)))] := hD
  refine lv_aload_n hx hb dX3_init_57 rfl (lv_at hl 0 rfl) ?_
  refine lv_iconst (v := 4) hx hb dX3_init_58 (by decide) ?_
  refine va_newa (atype := .boolean) (ty := .boolean) (N' := 4) (n := 4) (a0 := (4, .inl (fun _ => 0))) hx hb (hts (.arrayClass .boolean) kw_103) rfl hK hP hD hS hA (nw_boolean 4) (by decide) (by decide) (show 4 * 1 ≤ 536870912 by omega) (by decide) (by decide) dX3_init_59 (fun q59 cA H hK9 hP hD hS => ?_)
  obtain rfl : cA = C 2 := nk_boolean hK9
  have hP : va_P D vwCl [(h0, .inr (3, [.null, .int 0, .ref q7, .ref q15, .ref q23, .ref q32, .ref q41, .ref q50, .null])), (q7, .inl (C 1, 64, .inl (fun _ => 0))), (q15, .inl (C 1, 64, .inl (fun _ => 0))), (q23, .inl (C 1, 64, .inl (fun _ => 0))), (q32, .inl (C 1, 128, .inl (fun _ => 0))), (q41, .inl (C 2, 128, .inl (fun _ => 0))), (q50, .inl (C 4, 4, .inr (.inr (.inr (.inr (fun i => if i < 4 then some (r i) else none)))))), ((r 0), .inl (C 1, 40, .inl (fun _ => 0))), ((r 1), .inl (C 1, 40, .inl (fun _ => 0))), ((r 2), .inl (C 1, 40, .inl (fun _ => 0))), ((r 3), .inl (C 1, 40, .inl (fun _ => 0))), (q59, .inl (C 2, 4, .inl (fun _ => 0)))] H := hP
  have hD : va_D A [(h0, .inr (3, [.null, .int 0, .ref q7, .ref q15, .ref q23, .ref q32, .ref q41, .ref q50, .null])), (q7, .inl (C 1, 64, .inl (fun _ => 0))), (q15, .inl (C 1, 64, .inl (fun _ => 0))), (q23, .inl (C 1, 64, .inl (fun _ => 0))), (q32, .inl (C 1, 128, .inl (fun _ => 0))), (q41, .inl (C 2, 128, .inl (fun _ => 0))), (q50, .inl (C 4, 4, .inr (.inr (.inr (.inr (fun i => if i < 4 then some (r i) else none)))))), ((r 0), .inl (C 1, 40, .inl (fun _ => 0))), ((r 1), .inl (C 1, 40, .inl (fun _ => 0))), ((r 2), .inl (C 1, 40, .inl (fun _ => 0))), ((r 3), .inl (C 1, 40, .inl (fun _ => 0))), (q59, .inl (C 2, 4, .inl (fun _ => 0)))] := hD
  refine W.widen (k := 11) (n := 616) (by omega) (by omega) ?_
  refine va_putF (D := D) (ci := 3) (v := .ref q59) (ty := (.array .boolean)) (C := RX3) (T := TX3) (N := 9) hx hb hts inlX3 tyX3 tyX3_ok nmX3 hown hK hP hD hS 0 rfl rfl 8 (by decide) (hts _ kw_107) (fun _ h9 => h9) rfl hin rfl (by decide +kernel) rfl rfl (Nat.le_of_ble_eq_true rfl) dX3_init_61 (fun H locs hP hD hS => ?_)
  have hP : va_P D vwCl [(h0, .inr (3, [.null, .int 0, .ref q7, .ref q15, .ref q23, .ref q32, .ref q41, .ref q50, .ref q59])), (q7, .inl (C 1, 64, .inl (fun _ => 0))), (q15, .inl (C 1, 64, .inl (fun _ => 0))), (q23, .inl (C 1, 64, .inl (fun _ => 0))), (q32, .inl (C 1, 128, .inl (fun _ => 0))), (q41, .inl (C 2, 128, .inl (fun _ => 0))), (q50, .inl (C 4, 4, .inr (.inr (.inr (.inr (fun i => if i < 4 then some (r i) else none)))))), ((r 0), .inl (C 1, 40, .inl (fun _ => 0))), ((r 1), .inl (C 1, 40, .inl (fun _ => 0))), ((r 2), .inl (C 1, 40, .inl (fun _ => 0))), ((r 3), .inl (C 1, 40, .inl (fun _ => 0))), (q59, .inl (C 2, 4, .inl (fun _ => 0)))] H := hP
  have hD : va_D A [(h0, .inr (3, [.null, .int 0, .ref q7, .ref q15, .ref q23, .ref q32, .ref q41, .ref q50, .ref q59])), (q7, .inl (C 1, 64, .inl (fun _ => 0))), (q15, .inl (C 1, 64, .inl (fun _ => 0))), (q23, .inl (C 1, 64, .inl (fun _ => 0))), (q32, .inl (C 1, 128, .inl (fun _ => 0))), (q41, .inl (C 2, 128, .inl (fun _ => 0))), (q50, .inl (C 4, 4, .inr (.inr (.inr (.inr (fun i => if i < 4 then some (r i) else none)))))), ((r 0), .inl (C 1, 40, .inl (fun _ => 0))), ((r 1), .inl (C 1, 40, .inl (fun _ => 0))), ((r 2), .inl (C 1, 40, .inl (fun _ => 0))), ((r 3), .inl (C 1, 40, .inl (fun _ => 0))), (q59, .inl (C 2, 4, .inl (fun _ => 0)))] := hD
  refine lv_aload_n hx hb dX3_init_64 rfl (lv_at hl 0 rfl) ?_
  refine lv_aload_n hx hb dX3_init_65 rfl (lv_at hl 1 rfl) ?_
  refine va_putF (D := D) (ci := 3) (v := .ref p1) (ty := (.object "DrumCoder$Drum")) (C := RX3) (T := TX3) (N := 9) hx hb hts inlX3 tyX3 tyX3_ok nmX3 hown hK hP hD hS 0 rfl rfl 0 (by decide) (hts _ kw_108) (fun _ h9 => h9) rfl hin rfl (by decide +kernel) rfl rfl (Nat.le_of_ble_eq_true rfl) dX3_init_66 (fun H locs hP hD hS => ?_)
  have hP : va_P D vwCl [(h0, .inr (3, [.ref p1, .int 0, .ref q7, .ref q15, .ref q23, .ref q32, .ref q41, .ref q50, .ref q59])), (q7, .inl (C 1, 64, .inl (fun _ => 0))), (q15, .inl (C 1, 64, .inl (fun _ => 0))), (q23, .inl (C 1, 64, .inl (fun _ => 0))), (q32, .inl (C 1, 128, .inl (fun _ => 0))), (q41, .inl (C 2, 128, .inl (fun _ => 0))), (q50, .inl (C 4, 4, .inr (.inr (.inr (.inr (fun i => if i < 4 then some (r i) else none)))))), ((r 0), .inl (C 1, 40, .inl (fun _ => 0))), ((r 1), .inl (C 1, 40, .inl (fun _ => 0))), ((r 2), .inl (C 1, 40, .inl (fun _ => 0))), ((r 3), .inl (C 1, 40, .inl (fun _ => 0))), (q59, .inl (C 2, 4, .inl (fun _ => 0)))] H := hP
  have hD : va_D A [(h0, .inr (3, [.ref p1, .int 0, .ref q7, .ref q15, .ref q23, .ref q32, .ref q41, .ref q50, .ref q59])), (q7, .inl (C 1, 64, .inl (fun _ => 0))), (q15, .inl (C 1, 64, .inl (fun _ => 0))), (q23, .inl (C 1, 64, .inl (fun _ => 0))), (q32, .inl (C 1, 128, .inl (fun _ => 0))), (q41, .inl (C 2, 128, .inl (fun _ => 0))), (q50, .inl (C 4, 4, .inr (.inr (.inr (.inr (fun i => if i < 4 then some (r i) else none)))))), ((r 0), .inl (C 1, 40, .inl (fun _ => 0))), ((r 1), .inl (C 1, 40, .inl (fun _ => 0))), ((r 2), .inl (C 1, 40, .inl (fun _ => 0))), ((r 3), .inl (C 1, 40, .inl (fun _ => 0))), (q59, .inl (C 2, 4, .inl (fun _ => 0)))] := hD
  refine lv_aload_n hx hb dX3_init_69 rfl (lv_at hl 0 rfl) ?_
  refine va_get (D := D) (ci := 3) (C := RX3) (T := TX3) (N := 9) hx hb hts inlX3 hown hK hP 0 rfl rfl 5 (by decide) (hts _ kw_102) (fun _ h9 => h9) rfl dX3_init_70 ?_
  refine lv_iconst (v := (-1)) hx hb dX3_init_73 (by decide) ?_
  have hPc := hP.sub (ws' := [(q32, .inl (C 1, 128, .inl (fun _ => 0)))]) [4] rfl
  have hFc := va_free (wc := [(q32, .inl (C 1, 128, .inl (fun _ => 0)))]) hD hS hA [4] rfl
  refine va_callv (va_runS (As := [.ref q32, .int (-1)]) (rest := []) ⟨hx, hb, hml, hown, hts⟩ (kc_fill l D C q32 H.size (n := 128) (by omega) (fun _ => 0) (-1)) (kc_fillw hts ⟨Nat.le_of_ble_eq_true rfl, Nat.le_of_ble_eq_true rfl⟩) ⟨fun a U g mk q => by obtain ⟨q0, q1, qP, qK⟩ := q; exact ⟨q0, q1, qP, va_K.moved (u := U) (U := U.calling g mk a) (Vm.Alike.refl U.vm) qK⟩, fun U hU hW => ⟨rfl, by rw [hU], by rw [hU]; exact hPc, va_K.moved hW.alike hK⟩⟩ rfl rfl hl.1 rfl (lv_room (Nat.le_of_ble_eq_true rfl)) dX3_init_74 ⟨by decide, by decide⟩) hS (fun q _ h => hFc q h) hFc (fun u t H1 locs ht hvm hw hB hz1 hk1 hS => ?_)
  obtain ⟨g74, hg74, hP1, hD1⟩ := hB
  rw [ht] at hP1
  obtain ⟨hP, hD⟩ := va_join (wr := [(h0, .inr (3, [.ref p1, .int 0, .ref q7, .ref q15, .ref q23, .ref q32, .ref q41, .ref q50, .ref q59])), (q7, .inl (C 1, 64, .inl (fun _ => 0))), (q15, .inl (C 1, 64, .inl (fun _ => 0))), (q23, .inl (C 1, 64, .inl (fun _ => 0))), (q41, .inl (C 2, 128, .inl (fun _ => 0))), (q50, .inl (C 4, 4, .inr (.inr (.inr (.inr (fun i => if i < 4 then some (r i) else none)))))), ((r 0), .inl (C 1, 40, .inl (fun _ => 0))), ((r 1), .inl (C 1, 40, .inl (fun _ => 0))), ((r 2), .inl (C 1, 40, .inl (fun _ => 0))), ((r 3), .inl (C 1, 40, .inl (fun _ => 0))), (q59, .inl (C 2, 4, .inl (fun _ => 0)))]) (w1 := [(q32, .inl (C 1, 128, .inl g74))]) hP hD [4] [0, 1, 2, 3, 5, 6, 7, 8, 9, 10, 11] rfl rfl (by decide) (by decide) hk1 hFc hP1 hD1
  generalize H1 = H at hP hS ⊢
  have hP : va_P D vwCl [(h0, .inr (3, [.ref p1, .int 0, .ref q7, .ref q15, .ref q23, .ref q32, .ref q41, .ref q50, .ref q59])), (q7, .inl (C 1, 64, .inl (fun _ => 0))), (q15, .inl (C 1, 64, .inl (fun _ => 0))), (q23, .inl (C 1, 64, .inl (fun _ => 0))), (q41, .inl (C 2, 128, .inl (fun _ => 0))), (q50, .inl (C 4, 4, .inr (.inr (.inr (.inr (fun i => if i < 4 then some (r i) else none)))))), ((r 0), .inl (C 1, 40, .inl (fun _ => 0))), ((r 1), .inl (C 1, 40, .inl (fun _ => 0))), ((r 2), .inl (C 1, 40, .inl (fun _ => 0))), ((r 3), .inl (C 1, 40, .inl (fun _ => 0))), (q59, .inl (C 2, 4, .inl (fun _ => 0))), (q32, .inl (C 1, 128, .inl g74))] H := hP
  have hD : va_D A [(h0, .inr (3, [.ref p1, .int 0, .ref q7, .ref q15, .ref q23, .ref q32, .ref q41, .ref q50, .ref q59])), (q7, .inl (C 1, 64, .inl (fun _ => 0))), (q15, .inl (C 1, 64, .inl (fun _ => 0))), (q23, .inl (C 1, 64, .inl (fun _ => 0))), (q41, .inl (C 2, 128, .inl (fun _ => 0))), (q50, .inl (C 4, 4, .inr (.inr (.inr (.inr (fun i => if i < 4 then some (r i) else none)))))), ((r 0), .inl (C 1, 40, .inl (fun _ => 0))), ((r 1), .inl (C 1, 40, .inl (fun _ => 0))), ((r 2), .inl (C 1, 40, .inl (fun _ => 0))), ((r 3), .inl (C 1, 40, .inl (fun _ => 0))), (q59, .inl (C 2, 4, .inl (fun _ => 0))), (q32, .inl (C 1, 128, .inl g74))] := hD
  refine W.widen (k := 11) (n := 616) (by omega) (by omega) ?_
  refine lv_aload_n hx hb dX3_init_77 rfl (lv_at hl 0 rfl) ?_
  refine va_get (D := D) (ci := 3) (C := RX3) (T := TX3) (N := 9) hx hb hts inlX3 hown hK hP 0 rfl rfl 4 (by decide) (hts _ kw_101) (fun _ h9 => h9) rfl dX3_init_78 ?_
  refine lv_iconst (v := 1) hx hb dX3_init_81 (by decide) ?_
  have hPc := hP.sub (ws' := [(q23, .inl (C 1, 64, .inl (fun _ => 0)))]) [3] rfl
  have hFc := va_free (wc := [(q23, .inl (C 1, 64, .inl (fun _ => 0)))]) hD hS hA [3] rfl
  refine va_callv (va_runS (As := [.ref q23, .int 1]) (rest := []) ⟨hx, hb, hml, hown, hts⟩ (kc_fill l D C q23 H.size (n := 64) (by omega) (fun _ => 0) 1) (kc_fillw hts ⟨Nat.le_of_ble_eq_true rfl, Nat.le_of_ble_eq_true rfl⟩) ⟨fun a U g mk q => by obtain ⟨q0, q1, qP, qK⟩ := q; exact ⟨q0, q1, qP, va_K.moved (u := U) (U := U.calling g mk a) (Vm.Alike.refl U.vm) qK⟩, fun U hU hW => ⟨rfl, by rw [hU], by rw [hU]; exact hPc, va_K.moved hW.alike hK⟩⟩ rfl rfl hl.1 rfl (lv_room (Nat.le_of_ble_eq_true rfl)) dX3_init_82 ⟨by decide, by decide⟩) hS (fun q _ h => hFc q h) hFc (fun u t H1 locs ht hvm hw hB hz1 hk1 hS => ?_)
  obtain ⟨g82, hg82, hP1, hD1⟩ := hB
  rw [ht] at hP1
  obtain ⟨hP, hD⟩ := va_join (wr := [(h0, .inr (3, [.ref p1, .int 0, .ref q7, .ref q15, .ref q23, .ref q32, .ref q41, .ref q50, .ref q59])), (q7, .inl (C 1, 64, .inl (fun _ => 0))), (q15, .inl (C 1, 64, .inl (fun _ => 0))), (q41, .inl (C 2, 128, .inl (fun _ => 0))), (q50, .inl (C 4, 4, .inr (.inr (.inr (.inr (fun i => if i < 4 then some (r i) else none)))))), ((r 0), .inl (C 1, 40, .inl (fun _ => 0))), ((r 1), .inl (C 1, 40, .inl (fun _ => 0))), ((r 2), .inl (C 1, 40, .inl (fun _ => 0))), ((r 3), .inl (C 1, 40, .inl (fun _ => 0))), (q59, .inl (C 2, 4, .inl (fun _ => 0))), (q32, .inl (C 1, 128, .inl g74))]) (w1 := [(q23, .inl (C 1, 64, .inl g82))]) hP hD [3] [0, 1, 2, 4, 5, 6, 7, 8, 9, 10, 11] rfl rfl (by decide) (by decide) hk1 hFc hP1 hD1
  generalize H1 = H at hP hS ⊢
  have hP : va_P D vwCl [(h0, .inr (3, [.ref p1, .int 0, .ref q7, .ref q15, .ref q23, .ref q32, .ref q41, .ref q50, .ref q59])), (q7, .inl (C 1, 64, .inl (fun _ => 0))), (q15, .inl (C 1, 64, .inl (fun _ => 0))), (q41, .inl (C 2, 128, .inl (fun _ => 0))), (q50, .inl (C 4, 4, .inr (.inr (.inr (.inr (fun i => if i < 4 then some (r i) else none)))))), ((r 0), .inl (C 1, 40, .inl (fun _ => 0))), ((r 1), .inl (C 1, 40, .inl (fun _ => 0))), ((r 2), .inl (C 1, 40, .inl (fun _ => 0))), ((r 3), .inl (C 1, 40, .inl (fun _ => 0))), (q59, .inl (C 2, 4, .inl (fun _ => 0))), (q32, .inl (C 1, 128, .inl g74)), (q23, .inl (C 1, 64, .inl g82))] H := hP
  have hD : va_D A [(h0, .inr (3, [.ref p1, .int 0, .ref q7, .ref q15, .ref q23, .ref q32, .ref q41, .ref q50, .ref q59])), (q7, .inl (C 1, 64, .inl (fun _ => 0))), (q15, .inl (C 1, 64, .inl (fun _ => 0))), (q41, .inl (C 2, 128, .inl (fun _ => 0))), (q50, .inl (C 4, 4, .inr (.inr (.inr (.inr (fun i => if i < 4 then some (r i) else none)))))), ((r 0), .inl (C 1, 40, .inl (fun _ => 0))), ((r 1), .inl (C 1, 40, .inl (fun _ => 0))), ((r 2), .inl (C 1, 40, .inl (fun _ => 0))), ((r 3), .inl (C 1, 40, .inl (fun _ => 0))), (q59, .inl (C 2, 4, .inl (fun _ => 0))), (q32, .inl (C 1, 128, .inl g74)), (q23, .inl (C 1, 64, .inl g82))] := hD
  refine W.widen (k := 11) (n := 616) (by omega) (by omega) ?_
  exact W.vret hx hb hr (fun t ht hW => ⟨⟨(), rfl, trivial, q7, q15, q23, q32, q41, q50, r, q59, g74, g82, hg74, hg82, by rw [ht]; exact hP, hD⟩, hS.F ht⟩) hS.2.2 dX3_init_85
