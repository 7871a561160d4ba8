/-! the law, from its entry to its loop -/
theorem ap_at {P : Nat → Prop} {ws : va_W} {A : Nat → Nat} {n : Nat} (h : va_D P ws) (e : ws.map Prod.fst = (List.range n).map A) : ∀ k, k < n → ∃ q, ws[k]? = some q ∧ q.1 = A k := by
  intro k hk
  have hl : ws.length = n := by
    have := congrArg List.length e
    simpa using this
  have h1 : (ws.map Prod.fst)[k]? = some (A k) := by rw [e, List.getElem?_map, List.getElem?_range hk]; rfl
  rw [List.getElem?_map] at h1
  cases hq : ws[k]? with
  | none => rw [hq] at h1; cases h1
  | some q => rw [hq] at h1; exact ⟨q, rfl, Option.some.inj h1⟩
theorem ap_of {P : Nat → Prop} {ws : va_W} {A : Nat → Nat} {n : Nat} (h : va_D P ws) (e : ws.map Prod.fst = (List.range n).map A) : apA A n ∧ ∀ k, k < n → P (A k) := by
  refine ⟨fun i j hi hj hij => ?_, fun k hk => ?_⟩
  · obtain ⟨p, p1, p2⟩ := ap_at h e i hi
    obtain ⟨q, q1, q2⟩ := ap_at h e j hj
    exact h.1 i j p q p1 q1 (by rw [p2, q2, hij])
  · obtain ⟨p, p1, p2⟩ := ap_at h e k hk
    rw [← p2]
    exact h.2 k p p1
theorem ap_two {P : Nat → Prop} {w1 w2 : va_W} {A B : Nat → Nat} {n m : Nat} (h : va_D P (w1 ++ w2)) (e1 : w1.map Prod.fst = (List.range n).map A) (e2 : w2.map Prod.fst = (List.range m).map B) : (apA A n ∧ apA B m) ∧ (∀ k, k < n → P (A k)) ∧ (∀ k, k < m → P (B k)) ∧ ∀ i j, i < n → j < m → A i ≠ B j := by
  have l1 : w1.length = n := by
    have := congrArg List.length e1
    simpa using this
  have l2 : w2.length = m := by
    have := congrArg List.length e2
    simpa using this
  have at1 : ∀ k q, w1[k]? = some q → (w1 ++ w2)[k]? = some q := fun k q hq => by
    rw [List.getElem?_append_left (List.getElem?_eq_some_iff.mp hq).1]; exact hq
  have at2 : ∀ k q, w2[k]? = some q → (w1 ++ w2)[w1.length + k]? = some q := fun k q hq => by
    rw [List.getElem?_append_right (by omega), Nat.add_sub_cancel_left]; exact hq
  have D1 : va_D P w1 := ⟨fun i j p q hi hj hij => h.1 i j p q (at1 i p hi) (at1 j q hj) hij, fun k q hk => h.2 k q (at1 k q hk)⟩
  have D2 : va_D P w2 := ⟨fun i j p q hi hj hij => by have := h.1 _ _ p q (at2 i p hi) (at2 j q hj) hij; omega, fun k q hk => h.2 _ q (at2 k q hk)⟩
  refine ⟨⟨(ap_of D1 e1).1, (ap_of D2 e2).1⟩, (ap_of D1 e1).2, (ap_of D2 e2).2, fun i j hi hj hij => ?_⟩
  obtain ⟨p, p1, p2⟩ := ap_at D1 e1 i hi
  obtain ⟨q, q1, q2⟩ := ap_at D2 e2 j hj
  have := h.1 _ _ p q (at1 i p p1) (at2 j q q1) (by rw [p2, q2, hij])
  omega
theorem va_D.nil {P : Nat → Prop} : va_D P [] := ⟨fun i j p q h => by simp at h, fun k q h => by simp at h⟩
set_option maxHeartbeats 4000000 in
set_option maxRecDepth 100000 in
theorem whole_start {p : Program} {e : Env} {s : State} {m : MethodId} {below : List Frame} {meth : Method} {c : Code} (l : Launch) {b L : Nat} {xs : Nat → Int32} (hL : L ≤ 3072) (C0 : lw_At p s m meth c b L xs) : W p l e room_1 s m #[Value.ref b] below meth c s.heap [] 0 0 (lw_Z below #[Value.ref b] s) (entryFrame m ([Value.ref b] : List Value).toArray 4) := by
  obtain ⟨hx, hb, hr, hml, hown0, hts0, hXs, hbl, hlocks, hgv⟩ := id C0
  have hown : s.vm.findClass RL = some m.cls := hown0
  have hts : ∀ w ∈ wsL_law, w.before #[Value.ref b] s = true := fun w h => hts0 w (wsL_law_in w h)
  obtain ⟨D, C, hK⟩ := st_K hts0
  obtain ⟨adK, adV, hZ⟩ := st_Z hts0 hgv
  have hN := st_N hts0
  have hA : ∀ q : Nat, s.heap.size ≤ q → (fun q : Nat => s.heap.size ≤ q) q := fun _ h => h
  have hS : va_S (fun q : Nat => s.heap.size ≤ q) s.heap s.heap [] := va_S.rf
  have hP : va_P D vwCl [] s.heap := fun k q h => by simp at h
  have hD : va_D (fun q : Nat => s.heap.size ≤ q) [] := va_D.nil
  have hl := lv_entry ([.ref b]) (n := 4) (Nat.le_of_ble_eq_true rfl)
  rw [lg_entry_eq]
  generalize (lg_sl ([.ref b]) ++ List.replicate (4 - (lg_sl ([.ref b])).length) Slot.unset).toArray = ls at hl ⊢
  have hl : lv_has ls 4 [(0, .ref b)] := hl
  refine va_new (ci := 10) (fs := [.null, .null, .null, .null, .null, .null, .null, .null, .null, .null]) (C := RX10) (T := TX10) (N := 10) hx hb hts inlX10 tyX10 tyX10_ok hown (hts _ kw_0) (hts (.instantiable RX10 10) kw_1) (hts (.initialized RX10) kw_2) hK hP hD hS hA rfl (fun j hj => match j, hj with | 0, _ => rfl | 1, _ => rfl | 2, _ => rfl | 3, _ => rfl | 4, _ => rfl | 5, _ => rfl | 6, _ => rfl | 7, _ => rfl | 8, _ => rfl | 9, _ => rfl) (by decide) (by decide) dL_law_0 (fun h0 H hP hD hS => ?_)
  refine lv_dup hx hb dL_law_3 rfl ?_
  have hP : va_P D vwCl ([] ++ [(h0, .inr (10, [.null, .null, .null, .null, .null, .null, .null, .null, .null, .null]))]) H := hP
  have hD : va_D (fun q : Nat => s.heap.size ≤ q) ([] ++ [(h0, .inr (10, [.null, .null, .null, .null, .null, .null, .null, .null, .null, .null]))]) := hD
  have hPc := hP.sub (ws' := [(h0, .inr (10, [.null, .null, .null, .null, .null, .null, .null, .null, .null, .null]))]) [0] rfl
  have hFc := va_free (wc := [(h0, .inr (10, [.null, .null, .null, .null, .null, .null, .null, .null, .null, .null]))]) hD hS hA [0] rfl
  refine va_callv (va_runI (As := []) (rest := [.ref h0]) ⟨hx, hb, hml, hown, hts⟩ (kc_X10 l D C h0 H.size) (cwI 0 hts (gd_I kw_9) rfl rfl rfl (hts (.initialized RX10) kw_2) (hts (.methodLink RL 9 yX10_init) kw_7) (hts (.instanceMethod yX10_init) kw_8) rfl (by decide +kernel) ⟨Nat.le_of_ble_eq_true rfl, Nat.le_of_ble_eq_true rfl⟩) ⟨fun a U g mk q => by obtain ⟨q0, q1, qP, qK, qN⟩ := q; exact ⟨q0, q1, qP, va_K.moved (u := U) (U := U.calling g mk a) (Vm.Alike.refl U.vm) qK, qN.calling g mk a⟩, fun U hU hW => ⟨rfl, by rw [hU], by rw [hU]; exact hPc, va_K.moved hW.alike hK, hN.warm hW⟩⟩ rfl rfl hl.1 rfl (lv_room (Nat.le_of_ble_eq_true rfl)) dL_law_4 ⟨by decide, by decide⟩) hS (fun q _ h => hFc q h) hFc (fun u t H1 locs ht hvm hw hB hz1 hk1 hS => ?_)
  obtain ⟨A, σ, hA0, hqX, hP1, hD1⟩ := kx_X hB
  rw [ht] at hP1
  obtain ⟨hP, hD⟩ := va_join (wr := []) (w1 := wX A C σ) hP hD [0] [] rfl rfl (by decide) (by decide) hk1 hFc hP1 hD1
  have hP : va_P D vwCl (wX A C σ) H1 := hP
  have hD : va_D (fun q : Nat => s.heap.size ≤ q) (wX A C σ) := hD
  clear hP1 hD1 hFc hPc hB hk1
  generalize H1 = H at hP hS ⊢
  refine W.widen (k := 60) (n := 5048) (by omega) (by omega) ?_
  refine lv_astore_n (lv' := [(1, .ref h0), (0, .ref b)]) hx hb dL_law_7 rfl hl (by decide) rfl (fun ls hl => ?_)
  refine va_new (ci := 11) (fs := [.null, .int 0, .int 0, .int 0, .int 0, .int 0, .int 0, .int 0, .int 0, .long 0, .int 0, .int 0, .int 0, .int 0, .null, .null, .null, .int 0, .int 0, .int 0, .int 0, .null, .null, .null, .null, .null, .null, .null, .null, .null, .null, .int 0, .int 0, .int 0, .int 0, .int 0, .int 0, .int 0, .null, .null, .null, .null, .null, .null, .int 0, .null, .null, .int 0, .null, .null, .null, .null, .null, .null, .null, .null, .int 0, .null, .null]) (C := RX11) (T := TX11) (N := 59) hx hb hts inlX11 tyX11 tyX11_ok hown (hts _ kw_3) (hts (.instantiable RX11 59) kw_4) (hts (.initialized RX11) kw_5) hK hP hD hS hA rfl (fun j hj => match j, hj with | 0, _ => rfl | 1, _ => rfl | 2, _ => rfl | 3, _ => rfl | 4, _ => rfl | 5, _ => rfl | 6, _ => rfl | 7, _ => rfl | 8, _ => rfl | 9, _ => rfl | 10, _ => rfl | 11, _ => rfl | 12, _ => rfl | 13, _ => rfl | 14, _ => rfl | 15, _ => rfl | 16, _ => rfl | 17, _ => rfl | 18, _ => rfl | 19, _ => rfl | 20, _ => rfl | 21, _ => rfl | 22, _ => rfl | 23, _ => rfl | 24, _ => rfl | 25, _ => rfl | 26, _ => rfl | 27, _ => rfl | 28, _ => rfl | 29, _ => rfl | 30, _ => rfl | 31, _ => rfl | 32, _ => rfl | 33, _ => rfl | 34, _ => rfl | 35, _ => rfl | 36, _ => rfl | 37, _ => rfl | 38, _ => rfl | 39, _ => rfl | 40, _ => rfl | 41, _ => rfl | 42, _ => rfl | 43, _ => rfl | 44, _ => rfl | 45, _ => rfl | 46, _ => rfl | 47, _ => rfl | 48, _ => rfl | 49, _ => rfl | 50, _ => rfl | 51, _ => rfl | 52, _ => rfl | 53, _ => rfl | 54, _ => rfl | 55, _ => rfl | 56, _ => rfl | 57, _ => rfl | 58, _ => rfl | j + 59, hj => absurd hj (by omega)) (by decide) (by decide) dL_law_8 (fun h1 H hP hD hS => ?_)
  refine lv_dup hx hb dL_law_11 rfl ?_
  have hP : va_P D vwCl (wX A C σ ++ [(h1, .inr (11, [.null, .int 0, .int 0, .int 0, .int 0, .int 0, .int 0, .int 0, .int 0, .long 0, .int 0, .int 0, .int 0, .int 0, .null, .null, .null, .int 0, .int 0, .int 0, .int 0, .null, .null, .null, .null, .null, .null, .null, .null, .null, .null, .int 0, .int 0, .int 0, .int 0, .int 0, .int 0, .int 0, .null, .null, .null, .null, .null, .null, .int 0, .null, .null, .int 0, .null, .null, .null, .null, .null, .null, .null, .null, .int 0, .null, .null]))]) H := hP
  have hD : va_D (fun q : Nat => s.heap.size ≤ q) (wX A C σ ++ [(h1, .inr (11, [.null, .int 0, .int 0, .int 0, .int 0, .int 0, .int 0, .int 0, .int 0, .long 0, .int 0, .int 0, .int 0, .int 0, .null, .null, .null, .int 0, .int 0, .int 0, .int 0, .null, .null, .null, .null, .null, .null, .null, .null, .null, .null, .int 0, .int 0, .int 0, .int 0, .int 0, .int 0, .int 0, .null, .null, .null, .null, .null, .null, .int 0, .null, .null, .int 0, .null, .null, .null, .null, .null, .null, .null, .null, .int 0, .null, .null]))]) := hD
  have hPc := hP.sub (ws' := [(h1, .inr (11, [.null, .int 0, .int 0, .int 0, .int 0, .int 0, .int 0, .int 0, .int 0, .long 0, .int 0, .int 0, .int 0, .int 0, .null, .null, .null, .int 0, .int 0, .int 0, .int 0, .null, .null, .null, .null, .null, .null, .null, .null, .null, .null, .int 0, .int 0, .int 0, .int 0, .int 0, .int 0, .int 0, .null, .null, .null, .null, .null, .null, .int 0, .null, .null, .int 0, .null, .null, .null, .null, .null, .null, .null, .null, .int 0, .null, .null]))]) [60] rfl
  have hFc := va_free (wc := [(h1, .inr (11, [.null, .int 0, .int 0, .int 0, .int 0, .int 0, .int 0, .int 0, .int 0, .long 0, .int 0, .int 0, .int 0, .int 0, .null, .null, .null, .int 0, .int 0, .int 0, .int 0, .null, .null, .null, .null, .null, .null, .null, .null, .null, .null, .int 0, .int 0, .int 0, .int 0, .int 0, .int 0, .int 0, .null, .null, .null, .null, .null, .null, .int 0, .null, .null, .int 0, .null, .null, .null, .null, .null, .null, .null, .null, .int 0, .null, .null]))]) hD hS hA [60] rfl
  refine va_callv (va_runI (As := []) (rest := [.ref h1]) ⟨hx, hb, hml, hown, hts⟩ (kc_X11 l D C h1 H.size) (cwI 0 hts (gd_I kw_150) rfl rfl rfl (hts (.initialized RX11) kw_5) (hts (.methodLink RL 12 yX11_init) kw_148) (hts (.instanceMethod yX11_init) kw_149) rfl (by decide +kernel) ⟨Nat.le_of_ble_eq_true rfl, Nat.le_of_ble_eq_true rfl⟩) ⟨fun a U g mk q => by obtain ⟨q0, q1, qP, qK, qN⟩ := q; exact ⟨q0, q1, qP, va_K.moved (u := U) (U := U.calling g mk a) (Vm.Alike.refl U.vm) qK, qN.calling g mk a⟩, fun U hU hW => ⟨rfl, by rw [hU], by rw [hU]; exact hPc, va_K.moved hW.alike hK, hN.warm hW⟩⟩ rfl rfl hl.1 rfl (lv_room (Nat.le_of_ble_eq_true rfl)) dL_law_12 ⟨by decide, by decide⟩) hS (fun q _ h => hFc q h) hFc (fun u t H1 locs ht hvm hw hB hz1 hk1 hS => ?_)
  obtain ⟨B, τ, hB0, hqM, hP1, hD1⟩ := kx_M hB
  rw [ht] at hP1
  obtain ⟨hP, hD⟩ := va_join (wr := wX A C σ) (w1 := wM B C τ) hP hD [60] [0, 1, 2, 3, 4, 5, 6, 7, 8, 9, 10, 11, 12, 13, 14, 15, 16, 17, 18, 19, 20, 21, 22, 23, 24, 25, 26, 27, 28, 29, 30, 31, 32, 33, 34, 35, 36, 37, 38, 39, 40, 41, 42, 43, 44, 45, 46, 47, 48, 49, 50, 51, 52, 53, 54, 55, 56, 57, 58, 59] rfl rfl (by decide) (by decide) hk1 hFc hP1 hD1
  clear hP1 hD1 hFc hPc hB hk1
  generalize H1 = H at hP hS ⊢
  refine W.widen (k := 93) (n := 7943) (by omega) (by omega) ?_
  refine lv_astore_n (lv' := [(2, .ref h1), (1, .ref h0), (0, .ref b)]) hx hb dL_law_15 rfl hl (by decide) rfl (fun ls hl => ?_)
  refine lv_iconst (v := 0) hx hb dL_law_16 (by decide) ?_
  refine lv_istore_n (lv' := [(3, .int 0), (2, .ref h1), (1, .ref h0), (0, .ref b)]) hx hb dL_law_17 rfl hl (by decide) rfl (fun ls hl => ?_)
  obtain ⟨⟨a1, a2⟩, a3, a4, a5⟩ := ap_two hD (show (wX A C σ).map Prod.fst = (List.range 60).map A from rfl) (show (wM B C τ).map Prod.fst = (List.range 33).map B from rfl)
  have hPX : va_P D vwCl (wX A C σ) H := fun k q hk => hP k q (by rw [List.getElem?_append_left (List.getElem?_eq_some_iff.mp hk).1]; exact hk)
  have hPM : va_P D vwCl (wM B C τ) H := fun k q hk => hP ((wX A C σ).length + k) q (by rw [List.getElem?_append_right (by omega), Nat.add_sub_cancel_left]; exact hk)
  have hc : LwC D C adK adV A B p s m meth c b L xs := ⟨C0, hK, hZ, a1, a2, a3, a4, a5⟩
  exact lw_loop hc hL L 0 q0A σ τ H _ ls (Nat.zero_le L) (by omega) q0_ok hqX hqM hPX hPM hS (by rw [hA0, hB0]; exact hl)
