/-- a named number -/
def nm {α β : Type} (x : α) (k : α → β) : β := k x
theorem nm_use {α β : Type} {x v : α} {k : α → Option β} {r : β} (h : v = x) (hf : nm x k = some r) : k v = some r := by
  subst h
  exact hf
/-- as Met.ofW, for a method of a class some of whose other methods are run by entries -/
theorem met_ofWF {l : Launch} {y : MethodName} {ws ws' : List Cond} {rm : Room} {Pc : Array Value → State → Prop} {Qc : Array Value → State → Outcome → State → Prop} {mc ms : Nat} {free : Addr → Prop} {cc : ByteArray} {maxL : Nat} {ret : Option FieldType}
    (hy : plainFor y = true) (hw : ws = Cond.code y cc maxL ret :: ws')
    (body : ∀ p e s m args below meth c s₁, BodyLoose p l y (headSpec ws rm) cc maxL ret e s m args below meth c s₁ → c.maxLocals = maxL → Pc args s →
      W p l e (headSpec ws rm).room s m args below meth c s.heap [] 0 0 (MQ below Qc args s mc ms free) (entryFrame m args maxL)) : Met l y ws rm Pc Qc mc ms free := by
  refine MetFree.of_bodySF (code := cc) (maxLocals := maxL) (ret := ret) hy ?_ ?_
  · intro args s m h hn
    obtain ⟨meth, c, h1, h2, h3, h4, h5, h6, -, -⟩ := Cond.code_spec hn (atoms_spec (ws := ws) h _ (by rw [hw]; exact List.mem_cons_self))
    exact ⟨meth, c, h1, h2, h3, h4, h5, h6⟩
  · intro p e s m args below meth c s₁ B hml hP _
    have hh0 : s₁.heap = s.heap := by rw [B.state]; rfl
    obtain ⟨t, a1, o, b1, b2, b3⟩ := body p e s m args below meth c s₁ B hml hP s₁ hh0 (Stand.of_body B)
    exact ⟨t, o, a1, b1, b2, ⟨b3.1, b3.2⟩⟩
theorem vp_lt {i : Int32} {n : Nat} (h : vp_in i n) : i.toNatClampNeg < n := Nat.not_le.mp fun q => h (Or.inr q)
theorem sw_ne {x k : Int32} (h : ¬ x = k) : x.toInt ≠ k.toInt := fun e => h (Int32.toInt_inj.mp e)
theorem sw9_1 {x : Int32} (c1 : ¬ x = 1) (c2 : ¬ x = 2) (c3 : ¬ x = 3) (c4 : ¬ x = 4) (c5 : ¬ x = 5) (c6 : ¬ x = 6) (c7 : ¬ x = 7) (c8 : ¬ x = 8) (c9 : ¬ x = 9) : x.toInt < 1 ∨ 9 < x.toInt := by
  have h1 : x.toInt ≠ 1 := sw_ne c1
  have h2 : x.toInt ≠ 2 := sw_ne c2
  have h3 : x.toInt ≠ 3 := sw_ne c3
  have h4 : x.toInt ≠ 4 := sw_ne c4
  have h5 : x.toInt ≠ 5 := sw_ne c5
  have h6 : x.toInt ≠ 6 := sw_ne c6
  have h7 : x.toInt ≠ 7 := sw_ne c7
  have h8 : x.toInt ≠ 8 := sw_ne c8
  have h9 : x.toInt ≠ 9 := sw_ne c9
  omega
theorem sw6_0 {x : Int32} (c0 : ¬ x = 0) (c1 : ¬ x = 1) (c2 : ¬ x = 2) (c3 : ¬ x = 3) (c4 : ¬ x = 4) (c5 : ¬ x = 5) : x.toInt < 0 ∨ 5 < x.toInt := by
  have h0 : x.toInt ≠ 0 := sw_ne c0
  have h1 : x.toInt ≠ 1 := sw_ne c1
  have h2 : x.toInt ≠ 2 := sw_ne c2
  have h3 : x.toInt ≠ 3 := sw_ne c3
  have h4 : x.toInt ≠ 4 := sw_ne c4
  have h5 : x.toInt ≠ 5 := sw_ne c5
  omega
theorem sw8_0 {x : Int32} (c0 : ¬ x = 0) (c1 : ¬ x = 1) (c2 : ¬ x = 2) (c3 : ¬ x = 3) (c4 : ¬ x = 4) (c5 : ¬ x = 5) (c6 : ¬ x = 6) (c7 : ¬ x = 7) : x.toInt < 0 ∨ 7 < x.toInt := by
  have h0 : x.toInt ≠ 0 := sw_ne c0
  have h1 : x.toInt ≠ 1 := sw_ne c1
  have h2 : x.toInt ≠ 2 := sw_ne c2
  have h3 : x.toInt ≠ 3 := sw_ne c3
  have h4 : x.toInt ≠ 4 := sw_ne c4
  have h5 : x.toInt ≠ 5 := sw_ne c5
  have h6 : x.toInt ≠ 6 := sw_ne c6
  have h7 : x.toInt ≠ 7 := sw_ne c7
  omega
theorem sw7_0 {x : Int32} (c0 : ¬ x = 0) (c1 : ¬ x = 1) (c2 : ¬ x = 2) (c3 : ¬ x = 3) (c4 : ¬ x = 4) (c5 : ¬ x = 5) (c6 : ¬ x = 6) : x.toInt < 0 ∨ 6 < x.toInt := by
  have h0 : x.toInt ≠ 0 := sw_ne c0
  have h1 : x.toInt ≠ 1 := sw_ne c1
  have h2 : x.toInt ≠ 2 := sw_ne c2
  have h3 : x.toInt ≠ 3 := sw_ne c3
  have h4 : x.toInt ≠ 4 := sw_ne c4
  have h5 : x.toInt ≠ 5 := sw_ne c5
  have h6 : x.toInt ≠ 6 := sw_ne c6
  omega
theorem sw28_0 {x : Int32} (c0 : ¬ x = 0) (c1 : ¬ x = 1) (c2 : ¬ x = 2) (c3 : ¬ x = 3) (c4 : ¬ x = 4) (c5 : ¬ x = 5) (c6 : ¬ x = 6) (c7 : ¬ x = 7) (c8 : ¬ x = 8) (c9 : ¬ x = 9) (c10 : ¬ x = 10) (c11 : ¬ x = 11) (c12 : ¬ x = 12) (c13 : ¬ x = 13) (c14 : ¬ x = 14) (c15 : ¬ x = 15) (c16 : ¬ x = 16) (c17 : ¬ x = 17) (c18 : ¬ x = 18) (c19 : ¬ x = 19) (c20 : ¬ x = 20) (c21 : ¬ x = 21) (c22 : ¬ x = 22) (c23 : ¬ x = 23) (c24 : ¬ x = 24) (c25 : ¬ x = 25) (c26 : ¬ x = 26) (c27 : ¬ x = 27) : x.toInt < 0 ∨ 27 < x.toInt := by
  have h0 : x.toInt ≠ 0 := sw_ne c0
  have h1 : x.toInt ≠ 1 := sw_ne c1
  have h2 : x.toInt ≠ 2 := sw_ne c2
  have h3 : x.toInt ≠ 3 := sw_ne c3
  have h4 : x.toInt ≠ 4 := sw_ne c4
  have h5 : x.toInt ≠ 5 := sw_ne c5
  have h6 : x.toInt ≠ 6 := sw_ne c6
  have h7 : x.toInt ≠ 7 := sw_ne c7
  have h8 : x.toInt ≠ 8 := sw_ne c8
  have h9 : x.toInt ≠ 9 := sw_ne c9
  have h10 : x.toInt ≠ 10 := sw_ne c10
  have h11 : x.toInt ≠ 11 := sw_ne c11
  have h12 : x.toInt ≠ 12 := sw_ne c12
  have h13 : x.toInt ≠ 13 := sw_ne c13
  have h14 : x.toInt ≠ 14 := sw_ne c14
  have h15 : x.toInt ≠ 15 := sw_ne c15
  have h16 : x.toInt ≠ 16 := sw_ne c16
  have h17 : x.toInt ≠ 17 := sw_ne c17
  have h18 : x.toInt ≠ 18 := sw_ne c18
  have h19 : x.toInt ≠ 19 := sw_ne c19
  have h20 : x.toInt ≠ 20 := sw_ne c20
  have h21 : x.toInt ≠ 21 := sw_ne c21
  have h22 : x.toInt ≠ 22 := sw_ne c22
  have h23 : x.toInt ≠ 23 := sw_ne c23
  have h24 : x.toInt ≠ 24 := sw_ne c24
  have h25 : x.toInt ≠ 25 := sw_ne c25
  have h26 : x.toInt ≠ 26 := sw_ne c26
  have h27 : x.toInt ≠ 27 := sw_ne c27
  omega
theorem wX_kq (A : Nat → Nat) (C : Nat → ClassId) (σ : St) {k : Nat} (hk : k < 4) : (wX A C σ)[32 + k]? = some (A (32 + k), .inl (C 1, 40, .inl (σ.2.1 (32 + k)))) := by
  match k, hk with
  | 0, _ => rfl
  | 1, _ => rfl
  | 2, _ => rfl
  | 3, _ => rfl
  | k + 4, h => exact absurd h (by omega)
theorem wX_ks (A : Nat → Nat) (C : Nat → ClassId) (σ : St) {k : Nat} (hk : k < 4) (f : Nat → Int32) : (wX A C σ).set (32 + k) (A (32 + k), .inl (C 1, 40, .inl f)) = wX A C (sA σ (32 + k) f) := by
  match k, hk with
  | 0, _ => rfl
  | 1, _ => rfl
  | 2, _ => rfl
  | 3, _ => rfl
  | k + 4, h => exact absurd h (by omega)
theorem wX_kset {A : Nat → Nat} {C : Nat → ClassId} {σ : St} {D : va_G} {H : Heap} {k : Nat} {f : Nat → Int32} (hk : k < 4) (h : va_P D vwCl ((wX A C σ).set (32 + k) (A (32 + k), .inl (C 1, 40, .inl f))) H) : va_P D vwCl (wX A C (sA σ (32 + k) f)) H := by
  rw [wX_ks A C σ hk f] at h
  exact h
section KEPT
variable {p : Program} {l : Launch} {e : Env} {R : Room} {s : State} {m : MethodId} {args : Array Value} {below : List Frame} {meth : Method} {c : Code} {H : Heap} {locs : List Loc} {cells slots : Nat} {Q : State → Prop}
variable {cc : ByteArray} {pc : Nat} {ls : Array Slot} {rest : List Value} {D : va_G} {C : Nat → ClassId} {A : Nat → Nat} {σ : St}
theorem gX_keptr (hx : p.tables.exec = Jvm.exec) (hb : c.code = cc) (hK : va_K D vwCl (tyL C) s) (hP : va_P D vwCl (wX A C σ) H) {i : Int32} (hin : vp_in i 4) (hdg : decode cc pc = .ok (.aaload, 1)) (kk : W p l e R s m args below meth c H locs cells slots Q (F0 m (pc + 1) ls (.ref (A (32 + i.toNatClampNeg)) :: rest))) : W p l e R s m args below meth c H locs cells slots Q (F0 m pc ls (.int i :: .ref (A 31) :: rest)) := by
  have hlt : i.toNatClampNeg < 4 := vp_lt hin
  have hv : va_rf (if i.toNatClampNeg < 4 then some (A (32 + i.toNatClampNeg)) else none) = .ref (A (32 + i.toNatClampNeg)) := by rw [if_pos hlt]; rfl
  refine W.aald (v := .ref (A (32 + i.toNatClampNeg))) (ty := .array .int) hx hb (hP 31 _ (wX_31 A C σ)) ((hK.2 4 _ rfl).1 4 (fun j => va_rf (if j < 4 then some (A (32 + j)) else none))) rfl (fun q => by cases q) (by show ¬ (i < 0 ∨ (arrV _ _ _).slots.size ≤ _); rw [arrV_size]; exact hin) (by show (arrV _ _ _).slots[_]? = _; rw [arrV_read _ _ hlt, hv]) rfl rfl hdg kk
theorem gX_keptq (hx : p.tables.exec = Jvm.exec) (hb : c.code = cc) (hK : va_K D vwCl (tyL C) s) (hP : va_P D vwCl (wX A C σ) H) {k i : Int32} (hk : vp_in k 4) (hin : vp_in i 40) {v : Int32} (hv : σ.2.1 (32 + k.toNatClampNeg) i.toNatClampNeg = v) (hdg : decode cc pc = .ok (.iaload, 1)) (kk : W p l e R s m args below meth c H locs cells slots Q (F0 m (pc + 1) ls (.int v :: rest))) : W p l e R s m args below meth c H locs cells slots Q (F0 m pc ls (.int i :: .ref (A (32 + k.toNatClampNeg)) :: rest)) := by
  subst hv
  exact va_iald hx hb hK hP (32 + k.toNatClampNeg) 1 (wX_kq A C σ (vp_lt hk)) rfl hin hdg kk
end KEPT
theorem cx_tret {p : Program} {l : Launch} {e : Env} {R : Room} {s : State} {m : MethodId} {args : Array Value} {below : List Frame} {meth : Method} {c : Code} {H : Heap} {locs : List Loc} {cc : ByteArray} {pc nL : Nat} {own : String} {D : va_G} {C : Nat → ClassId} {wf : St → va_W} {adK adV : Nat → Nat} {fr : Nat → Prop} {σ : St} {ls : Array Slot} {v : Int32} {ty : FieldType} (cx : Cxx D C adK adV fr p s m args meth c cc nL own (some ty)) (hn : narrow ty (.int v) = .int v) (hP : va_P D vwCl (wf σ) H) (hS : va_S fr s.heap H locs) (hdg : decode cc pc = .ok (.ireturn, 1)) : W p l e R s m args below meth c H locs 0 0 (MQ below (Qcx D wf fr (some (.int v)) σ) args s 0 0 fr) (F0 m pc ls [.int v]) :=
  W.zret cx.1 cx.2.1 cx.2.2.2.2.2.2.1 hn (fun t ht _ => ⟨rfl, by rw [ht]; exact hP, hS.F ht⟩) hS.2.2 hdg cx.2.2.2.2.2.2.2.1
theorem cx_wret {p : Program} {l : Launch} {e : Env} {R : Room} {s : State} {m : MethodId} {args : Array Value} {below : List Frame} {meth : Method} {c : Code} {H : Heap} {locs : List Loc} {cc : ByteArray} {pc nL : Nat} {own : String} {D : va_G} {C : Nat → ClassId} {wf : St → va_W} {adK adV : Nat → Nat} {fr : Nat → Prop} {σ : St} {ls : Array Slot} (cx : Cxx D C adK adV fr p s m args meth c cc nL own none) (hP : va_P D vwCl (wf σ) H) (hS : va_S fr s.heap H locs) (hdg : decode cc pc = .ok (.return_, 1)) : W p l e R s m args below meth c H locs 0 0 (MQ below (Qcx D wf fr none σ) args s 0 0 fr) (F0 m pc ls []) :=
  W.vret cx.1 cx.2.1 cx.2.2.2.2.2.2.1 (fun t ht _ => ⟨rfl, by rw [ht]; exact hP, hS.F ht⟩) hS.2.2 hdg cx.2.2.2.2.2.2.2.1
abbrev rm_J0_coder_7d493 : Room := { frames := 0, cells := 0, slots := 0, locals := 0 }
abbrev rm_J0_length_8abf5 : Room := { frames := 1, cells := 0, slots := 0, locals := 20 }
abbrev rm_J0_isLatin1_aae02 : Room := { frames := 0, cells := 0, slots := 0, locals := 0 }
abbrev rm_J3_checkIndex_8e157 : Room := { frames := 0, cells := 0, slots := 0, locals := 0 }
abbrev rm_J0_checkIndex_df160 : Room := { frames := 1, cells := 0, slots := 0, locals := 22 }
abbrev rm_J1_charAt_3b067 : Room := { frames := 2, cells := 0, slots := 0, locals := 43 }
abbrev rm_J0_charAt_5068e : Room := { frames := 3, cells := 0, slots := 0, locals := 64 }
theorem cw_J0_335 {R : Room} {s : State} {args : Array Value} (hts : ∀ w ∈ wsL_law, w.before args s = true) (hR : rm_J0_coder_7d493.frames + 1 ≤ R.frames ∧ 8 + (1 + 11) + rm_J0_coder_7d493.locals ≤ R.locals) : CallW R s args RJ0 RJ0 335 yJ0_coder_7d493 cJ0_coder_7d493 1 (some .byte) (Cond.code yJ0_coder_7d493 cJ0_coder_7d493 1 (some .byte) :: wsL_law) rm_J0_coder_7d493 0 0 0 := cwV 0 hts (gd_V kw_278 kw_279 kw_280 kw_275 kw_281) rfl rfl rfl (by decide +kernel) hR
theorem cw_J0_492 {R : Room} {s : State} {args : Array Value} (hts : ∀ w ∈ wsL_law, w.before args s = true) (hR : rm_J0_isLatin1_aae02.frames + 1 ≤ R.frames ∧ 8 + (1 + 11) + rm_J0_isLatin1_aae02.locals ≤ R.locals) : CallW R s args RJ0 RJ0 492 yJ0_isLatin1_aae02 cJ0_isLatin1_aae02 1 (some .boolean) (Cond.code yJ0_isLatin1_aae02 cJ0_isLatin1_aae02 1 (some .boolean) :: wsL_law) rm_J0_isLatin1_aae02 0 0 0 := cwV 0 hts (gd_V kw_288 kw_289 kw_290 kw_275 kw_291) rfl rfl rfl (by decide +kernel) hR
theorem cw_J0_495 {R : Room} {s : State} {args : Array Value} (hts : ∀ w ∈ wsL_law, w.before args s = true) (hR : rm_J1_charAt_3b067.frames + 1 ≤ R.frames ∧ 8 + (2 + 11) + rm_J1_charAt_3b067.locals ≤ R.locals) : CallB R s args RJ0 495 yJ1_charAt_3b067 cJ1_charAt_3b067 2 (some .char) (Cond.code yJ1_charAt_3b067 cJ1_charAt_3b067 2 (some .char) :: wsL_law) rm_J1_charAt_3b067 0 0 2 ∧ (Cond.static yJ1_charAt_3b067).before args s = true := va_cwS 2 hts (gd_S kw_292 kw_293 kw_294 kw_295) rfl rfl rfl (by decide +kernel) hR
theorem cw_J1_9 {R : Room} {s : State} {args : Array Value} (hts : ∀ w ∈ wsL_law, w.before args s = true) (hR : rm_J0_checkIndex_df160.frames + 1 ≤ R.frames ∧ 8 + (2 + 11) + rm_J0_checkIndex_df160.locals ≤ R.locals) : CallB R s args RJ1 9 yJ0_checkIndex_df160 cJ0_checkIndex_df160 2 none (Cond.code yJ0_checkIndex_df160 cJ0_checkIndex_df160 2 none :: wsL_law) rm_J0_checkIndex_df160 0 0 2 ∧ (Cond.static yJ0_checkIndex_df160).before args s = true := va_cwS 2 hts (gd_S kw_296 kw_297 kw_275 kw_298) rfl rfl rfl (by decide +kernel) hR
theorem cw_J0_1059 {R : Room} {s : State} {args : Array Value} (hts : ∀ w ∈ wsL_law, w.before args s = true) (hR : rm_J3_checkIndex_8e157.frames + 1 ≤ R.frames ∧ 8 + (3 + 11) + rm_J3_checkIndex_8e157.locals ≤ R.locals) : CallB R s args RJ0 1059 yJ3_checkIndex_8e157 cJ3_checkIndex_8e157 3 (some .int) (Cond.code yJ3_checkIndex_8e157 cJ3_checkIndex_8e157 3 (some .int) :: wsL_law) rm_J3_checkIndex_8e157 0 0 3 ∧ (Cond.static yJ3_checkIndex_8e157).before args s = true := va_cwS 3 hts (gd_S kw_300 kw_301 kw_302 kw_303) rfl rfl rfl (by decide +kernel) hR
theorem cw_X9_61 {R : Room} {s : State} {args : Array Value} (hts : ∀ w ∈ wsL_law, w.before args s = true) (hR : rm_J0_length_8abf5.frames + 1 ≤ R.frames ∧ 8 + (1 + 11) + rm_J0_length_8abf5.locals ≤ R.locals) : CallW R s args RX9 RJ0 61 yJ0_length_8abf5 cJ0_length_8abf5 1 (some .int) (Cond.code yJ0_length_8abf5 cJ0_length_8abf5 1 (some .int) :: wsL_law) rm_J0_length_8abf5 0 0 0 := cwV 0 hts (gd_V kw_272 kw_273 kw_274 kw_275 kw_276) rfl rfl rfl (by decide +kernel) hR
theorem cw_X9_66 {R : Room} {s : State} {args : Array Value} (hts : ∀ w ∈ wsL_law, w.before args s = true) (hR : rm_J0_charAt_5068e.frames + 1 ≤ R.frames ∧ 8 + (2 + 11) + rm_J0_charAt_5068e.locals ≤ R.locals) : CallW R s args RX9 RJ0 66 yJ0_charAt_5068e cJ0_charAt_5068e 2 (some .char) (Cond.code yJ0_charAt_5068e cJ0_charAt_5068e 2 (some .char) :: wsL_law) rm_J0_charAt_5068e 0 0 1 := cwV 1 hts (gd_V kw_284 kw_285 kw_286 kw_275 kw_287) rfl rfl rfl (by decide +kernel) hR
theorem cw_X11_128 {R : Room} {s : State} {args : Array Value} (hts : ∀ w ∈ wsL_law, w.before args s = true) (hR : rm_J0_length_8abf5.frames + 1 ≤ R.frames ∧ 8 + (1 + 11) + rm_J0_length_8abf5.locals ≤ R.locals) : CallW R s args RX11 RJ0 128 yJ0_length_8abf5 cJ0_length_8abf5 1 (some .int) (Cond.code yJ0_length_8abf5 cJ0_length_8abf5 1 (some .int) :: wsL_law) rm_J0_length_8abf5 0 0 0 := cwV 0 hts (gd_V kw_453 kw_273 kw_274 kw_275 kw_276) rfl rfl rfl (by decide +kernel) hR
theorem cw_X11_134 {R : Room} {s : State} {args : Array Value} (hts : ∀ w ∈ wsL_law, w.before args s = true) (hR : rm_J0_charAt_5068e.frames + 1 ≤ R.frames ∧ 8 + (2 + 11) + rm_J0_charAt_5068e.locals ≤ R.locals) : CallW R s args RX11 RJ0 134 yJ0_charAt_5068e cJ0_charAt_5068e 2 (some .char) (Cond.code yJ0_charAt_5068e cJ0_charAt_5068e 2 (some .char) :: wsL_law) rm_J0_charAt_5068e 0 0 1 := cwV 1 hts (gd_V kw_454 kw_285 kw_286 kw_275 kw_287) rfl rfl rfl (by decide +kernel) hR
set_option maxHeartbeats 4000000 in
set_option maxRecDepth 100000 in
theorem ct_coder (l : Launch) (D : va_G) (C : Nat → ClassId) (wf : St → va_W) (adK adV : Nat → Nat) (fr : Nat → Prop) {i : Nat} (hi : i < 17) {σ : St} : Met l yJ0_coder_7d493 (Cond.code yJ0_coder_7d493 cJ0_coder_7d493 1 (some .byte) :: wsL_law) rm_J0_coder_7d493 (Pcx D C wf adK adV fr [.ref (adK i)] σ) (Qcx D wf fr (some (.int 0)) σ) 0 0 fr := by
  refine Met.ofW (cc := cJ0_coder_7d493) (maxL := 1) (ret := (some .byte)) (by decide) rfl ?_
  intro p e s m args below meth c s₁ B hml hv
  obtain ⟨rfl, hP, hK, hZ⟩ := hv
  have cx : Cxx D C adK adV fr p s m _ meth c cJ0_coder_7d493 1 RJ0 (some .byte) := ⟨B.exec, B.bytes, hml, findClass_of_methodNamed B.named, fun w h => atoms_spec (ws := Cond.code yJ0_coder_7d493 cJ0_coder_7d493 1 (some .byte) :: wsL_law) B.pre w (List.mem_cons_of_mem _ h), hK, B.returns, B.notSynchronized, hZ⟩
  obtain ⟨hx, hb, -, hown, hts, -, hr, hlk, -⟩ := id cx
  have hS : va_S fr s.heap s.heap [] := va_S.rf
  have hl := lv_entry ([.ref (adK i)]) (n := 1) (Nat.le_of_ble_eq_true rfl)
  rw [lg_entry_eq]
  generalize (lg_sl ([.ref (adK i)]) ++ List.replicate (1 - (lg_sl ([.ref (adK i)])).length) Slot.unset).toArray = ls at hl ⊢
  have hl : lv_has ls 1 [(0, .ref (adK i))] := hl
  show W p l e rm_J0_coder_7d493 s m _ below meth c s.heap [] 0 0 _ _
  refine va_gets hx hb hZ.2.2.1 hS hown (hts _ kw_282) (fun _ h9 => h9) dJ0_coder_7d493_0 ?_
  refine lv_if_eq (tgt := 13) hx hb dJ0_coder_7d493_3 (by decide) (fun c1 => absurd c1 (by decide)) (fun c1 => ?_)
  refine lv_aload_n hx hb dJ0_coder_7d493_6 rfl (lv_at hl 0 rfl) ?_
  refine vk_getf hx hb (hZ.1.1 i hi).2.1 hS hown (hts _ kw_283) (fun _ h9 => h9) dJ0_coder_7d493_7 ?_
  refine lv_goto (tgt := 14) hx hb dJ0_coder_7d493_10 (by decide) ?_
  exact cx_tret cx rfl hP hS dJ0_coder_7d493_14
set_option maxHeartbeats 4000000 in
set_option maxRecDepth 100000 in
theorem ct_isLatin1 (l : Launch) (D : va_G) (C : Nat → ClassId) (wf : St → va_W) (adK adV : Nat → Nat) (fr : Nat → Prop) {i : Nat} (hi : i < 17) {σ : St} : Met l yJ0_isLatin1_aae02 (Cond.code yJ0_isLatin1_aae02 cJ0_isLatin1_aae02 1 (some .boolean) :: wsL_law) rm_J0_isLatin1_aae02 (Pcx D C wf adK adV fr [.ref (adK i)] σ) (Qcx D wf fr (some (.int 1)) σ) 0 0 fr := by
  refine Met.ofW (cc := cJ0_isLatin1_aae02) (maxL := 1) (ret := (some .boolean)) (by decide) rfl ?_
  intro p e s m args below meth c s₁ B hml hv
  obtain ⟨rfl, hP, hK, hZ⟩ := hv
  have cx : Cxx D C adK adV fr p s m _ meth c cJ0_isLatin1_aae02 1 RJ0 (some .boolean) := ⟨B.exec, B.bytes, hml, findClass_of_methodNamed B.named, fun w h => atoms_spec (ws := Cond.code yJ0_isLatin1_aae02 cJ0_isLatin1_aae02 1 (some .boolean) :: wsL_law) B.pre w (List.mem_cons_of_mem _ h), hK, B.returns, B.notSynchronized, hZ⟩
  obtain ⟨hx, hb, -, hown, hts, -, hr, hlk, -⟩ := id cx
  have hS : va_S fr s.heap s.heap [] := va_S.rf
  have hl := lv_entry ([.ref (adK i)]) (n := 1) (Nat.le_of_ble_eq_true rfl)
  rw [lg_entry_eq]
  generalize (lg_sl ([.ref (adK i)]) ++ List.replicate (1 - (lg_sl ([.ref (adK i)])).length) Slot.unset).toArray = ls at hl ⊢
  have hl : lv_has ls 1 [(0, .ref (adK i))] := hl
  show W p l e rm_J0_isLatin1_aae02 s m _ below meth c s.heap [] 0 0 _ _
  refine va_gets hx hb hZ.2.2.1 hS hown (hts _ kw_282) (fun _ h9 => h9) dJ0_isLatin1_aae02_0 ?_
  refine lv_if_eq (tgt := 17) hx hb dJ0_isLatin1_aae02_3 (by decide) (fun c1 => absurd c1 (by decide)) (fun c1 => ?_)
  refine lv_aload_n hx hb dJ0_isLatin1_aae02_6 rfl (lv_at hl 0 rfl) ?_
  refine vk_getf hx hb (hZ.1.1 i hi).2.1 hS hown (hts _ kw_283) (fun _ h9 => h9) dJ0_isLatin1_aae02_7 ?_
  refine lv_if_ne (tgt := 17) hx hb dJ0_isLatin1_aae02_10 (by decide) (fun c1 => absurd rfl c1) (fun c1 => ?_)
  refine lv_iconst (v := 1) hx hb dJ0_isLatin1_aae02_13 (by decide) ?_
  refine lv_goto (tgt := 18) hx hb dJ0_isLatin1_aae02_14 (by decide) ?_
  exact cx_tret cx rfl hP hS dJ0_isLatin1_aae02_18
theorem sh0 (x : Int32) : x >>> ((0 : Int32) &&& 31) = x := by
  rw [show ((0 : Int32) &&& 31) = 0 by decide]
  simp
set_option maxHeartbeats 4000000 in
set_option maxRecDepth 100000 in
theorem ct_length (l : Launch) (D : va_G) (C : Nat → ClassId) (wf : St → va_W) (adK adV : Nat → Nat) (fr : Nat → Prop) {i : Nat} (hi : i < 17) {σ : St} : Met l yJ0_length_8abf5 (Cond.code yJ0_length_8abf5 cJ0_length_8abf5 1 (some .int) :: wsL_law) rm_J0_length_8abf5 (Pcx D C wf adK adV fr [.ref (adK i)] σ) (Qcx D wf fr (some (.int (nI (sLen.getD i 0)))) σ) 0 0 fr := by
  refine Met.ofW (cc := cJ0_length_8abf5) (maxL := 1) (ret := (some .int)) (by decide) rfl ?_
  intro p e s m args below meth c s₁ B hml hv
  obtain ⟨rfl, hP, hK, hZ⟩ := hv
  have cx : Cxx D C adK adV fr p s m _ meth c cJ0_length_8abf5 1 RJ0 (some .int) := ⟨B.exec, B.bytes, hml, findClass_of_methodNamed B.named, fun w h => atoms_spec (ws := Cond.code yJ0_length_8abf5 cJ0_length_8abf5 1 (some .int) :: wsL_law) B.pre w (List.mem_cons_of_mem _ h), hK, B.returns, B.notSynchronized, hZ⟩
  obtain ⟨hx, hb, -, hown, hts, -, hr, hlk, -⟩ := id cx
  have hS : va_S fr s.heap s.heap [] := va_S.rf
  have hl := lv_entry ([.ref (adK i)]) (n := 1) (Nat.le_of_ble_eq_true rfl)
  rw [lg_entry_eq]
  generalize (lg_sl ([.ref (adK i)]) ++ List.replicate (1 - (lg_sl ([.ref (adK i)])).length) Slot.unset).toArray = ls at hl ⊢
  have hl : lv_has ls 1 [(0, .ref (adK i))] := hl
  show W p l e rm_J0_length_8abf5 s m _ below meth c s.heap [] 0 0 _ _
  refine lv_aload_n hx hb dJ0_length_8abf5_0 rfl (lv_at hl 0 rfl) ?_
  refine vk_getf hx hb (hZ.1.1 i hi).2.2.1 hS hown (hts _ kw_277) (fun _ h9 => h9) dJ0_length_8abf5_1 ?_
  refine va_tlen hx hb (hZ.1.1 i hi).2.2.2 hS (v := nI (sLen.getD i 0)) rfl dJ0_length_8abf5_4 ?_
  refine lv_aload_n hx hb dJ0_length_8abf5_5 rfl (lv_at hl 0 rfl) ?_
  refine cx_V (As := []) (rest := [.int (nI (sLen.getD i 0))]) cx (ct_coder l D C wf adK adV fr hi) (cw_J0_335 hts ⟨Nat.le_of_ble_eq_true rfl, Nat.le_of_ble_eq_true rfl⟩) (vk_recv hZ.1 hi hS) hP hS rfl hl.1 rfl (Nat.le_of_ble_eq_true rfl) dJ0_length_8abf5_6 ⟨Nat.zero_le _, Nat.zero_le _⟩ (fun H locs hP hS => ?_)
  refine lv_ishr hx hb dJ0_length_8abf5_9 ?_
  rw [sh0]
  exact cx_tret cx rfl hP hS dJ0_length_8abf5_10
set_option maxHeartbeats 4000000 in
set_option maxRecDepth 100000 in
theorem ct_check3 (l : Launch) (D : va_G) (C : Nat → ClassId) (wf : St → va_W) (adK adV : Nat → Nat) (fr : Nat → Prop) {k n : Int32} {q : Value} (hq : q.category = 1) (h0 : ¬ k < 0) (h1 : k < n) {σ : St} : Met l yJ3_checkIndex_8e157 (Cond.code yJ3_checkIndex_8e157 cJ3_checkIndex_8e157 3 (some .int) :: wsL_law) rm_J3_checkIndex_8e157 (Pcx D C wf adK adV fr [.int k, .int n, q] σ) (Qcx D wf fr (some (.int k)) σ) 0 0 fr := by
  refine Met.ofW (cc := cJ3_checkIndex_8e157) (maxL := 3) (ret := (some .int)) (by decide) rfl ?_
  intro p e s m args below meth c s₁ B hml hv
  obtain ⟨rfl, hP, hK, hZ⟩ := hv
  have cx : Cxx D C adK adV fr p s m _ meth c cJ3_checkIndex_8e157 3 RJ3 (some .int) := ⟨B.exec, B.bytes, hml, findClass_of_methodNamed B.named, fun w h => atoms_spec (ws := Cond.code yJ3_checkIndex_8e157 cJ3_checkIndex_8e157 3 (some .int) :: wsL_law) B.pre w (List.mem_cons_of_mem _ h), hK, B.returns, B.notSynchronized, hZ⟩
  obtain ⟨hx, hb, -, hown, hts, -, hr, hlk, -⟩ := id cx
  have hS : va_S fr s.heap s.heap [] := va_S.rf
  have hl := lv_entry ([.int k, .int n, q]) (n := 3) (by cases q <;> first | exact Nat.le_of_ble_eq_true rfl | cases hq)
  rw [lg_entry_eq]
  generalize (lg_sl ([.int k, .int n, q]) ++ List.replicate (3 - (lg_sl ([.int k, .int n, q])).length) Slot.unset).toArray = ls at hl ⊢
  have hl : lv_has ls 3 [(0, .int k), (1, .int n)] := lv_sub hl [0, 1] (by cases q <;> rfl)
  show W p l e rm_J3_checkIndex_8e157 s m _ below meth c s.heap [] 0 0 _ _
  refine lv_iload_n hx hb dJ3_checkIndex_8e157_0 rfl (lv_at hl 0 rfl) ?_
  refine lv_if_lt (tgt := 9) hx hb dJ3_checkIndex_8e157_1 (by decide) (fun c1 => absurd c1 h0) (fun c1 => ?_)
  refine lv_iload_n hx hb dJ3_checkIndex_8e157_4 rfl (lv_at hl 0 rfl) ?_
  refine lv_iload_n hx hb dJ3_checkIndex_8e157_5 rfl (lv_at hl 1 rfl) ?_
  refine lv_icmp_lt (tgt := 16) hx hb dJ3_checkIndex_8e157_6 (by decide) (fun c1 => ?_) (fun c1 => absurd h1 c1)
  refine lv_iload_n hx hb dJ3_checkIndex_8e157_16 rfl (lv_at hl 0 rfl) ?_
  exact cx_tret cx rfl hP hS dJ3_checkIndex_8e157_17
set_option maxHeartbeats 4000000 in
set_option maxRecDepth 100000 in
theorem ct_check0 (l : Launch) (D : va_G) (C : Nat → ClassId) (wf : St → va_W) (adK adV : Nat → Nat) (fr : Nat → Prop) {k n : Int32} (h0 : ¬ k < 0) (h1 : k < n) {σ : St} : Met l yJ0_checkIndex_df160 (Cond.code yJ0_checkIndex_df160 cJ0_checkIndex_df160 2 none :: wsL_law) rm_J0_checkIndex_df160 (Pcx D C wf adK adV fr [.int k, .int n] σ) (Qcx D wf fr none σ) 0 0 fr := by
  refine Met.ofW (cc := cJ0_checkIndex_df160) (maxL := 2) (ret := none) (by decide) rfl ?_
  intro p e s m args below meth c s₁ B hml hv
  obtain ⟨rfl, hP, hK, hZ⟩ := hv
  have cx : Cxx D C adK adV fr p s m _ meth c cJ0_checkIndex_df160 2 RJ0 none := ⟨B.exec, B.bytes, hml, findClass_of_methodNamed B.named, fun w h => atoms_spec (ws := Cond.code yJ0_checkIndex_df160 cJ0_checkIndex_df160 2 none :: wsL_law) B.pre w (List.mem_cons_of_mem _ h), hK, B.returns, B.notSynchronized, hZ⟩
  obtain ⟨hx, hb, -, hown, hts, -, hr, hlk, -⟩ := id cx
  have hS : va_S fr s.heap s.heap [] := va_S.rf
  have hl := lv_entry ([.int k, .int n]) (n := 2) (Nat.le_of_ble_eq_true rfl)
  rw [lg_entry_eq]
  generalize (lg_sl ([.int k, .int n]) ++ List.replicate (2 - (lg_sl ([.int k, .int n])).length) Slot.unset).toArray = ls at hl ⊢
  have hl : lv_has ls 2 [(0, .int k), (1, .int n)] := hl
  show W p l e rm_J0_checkIndex_df160 s m _ below meth c s.heap [] 0 0 _ _
  refine lv_iload_n hx hb dJ0_checkIndex_df160_0 rfl (lv_at hl 0 rfl) ?_
  refine lv_iload_n hx hb dJ0_checkIndex_df160_1 rfl (lv_at hl 1 rfl) ?_
  rcases hZ.2.2.2 with z | ⟨t, z⟩
  · refine va_gets hx hb z hS hown (hts _ kw_299) (fun _ h9 => h9) dJ0_checkIndex_df160_2 ?_
    refine cx_S (As := [.int k, .int n, .null]) (rest := []) cx (ct_check3 l D C wf adK adV fr (q := .null) rfl h0 h1) (cw_J0_1059 hts ⟨Nat.le_of_ble_eq_true rfl, Nat.le_of_ble_eq_true rfl⟩) hP hS rfl hl.1 rfl (Nat.le_of_ble_eq_true rfl) dJ0_checkIndex_df160_5 ⟨Nat.zero_le _, Nat.zero_le _⟩ (fun H locs hP hS => ?_)
    refine lv_pop hx hb dJ0_checkIndex_df160_8 rfl ?_
    exact cx_wret cx hP hS dJ0_checkIndex_df160_9
  · refine va_gets hx hb z hS hown (hts _ kw_299) (fun _ h9 => h9) dJ0_checkIndex_df160_2 ?_
    refine cx_S (As := [.int k, .int n, .ref t]) (rest := []) cx (ct_check3 l D C wf adK adV fr (q := .ref t) rfl h0 h1) (cw_J0_1059 hts ⟨Nat.le_of_ble_eq_true rfl, Nat.le_of_ble_eq_true rfl⟩) hP hS rfl hl.1 rfl (Nat.le_of_ble_eq_true rfl) dJ0_checkIndex_df160_5 ⟨Nat.zero_le _, Nat.zero_le _⟩ (fun H locs hP hS => ?_)
    refine lv_pop hx hb dJ0_checkIndex_df160_8 rfl ?_
    exact cx_wret cx hP hS dJ0_checkIndex_df160_9
/-- the sign at place k of text i -/
def strAt (i : Nat) (k : Int32) : Int32 := ((((sByt.getD i []).getD k.toNatClampNeg 0 &&& 255) : Int32).toUInt32 % 65536).toInt32
theorem sLen_lt {i : Nat} (hi : i < 17) : sLen.getD i 0 < 2 ^ 31 := by
  have h : ∀ j, j < 17 → sLen.getD j 0 < 2 ^ 31 := by decide
  exact h i hi
theorem ib_lt {k : Int32} {n : Nat} (hn : n < 2 ^ 31) (h : vp_in k n) : ¬ k < 0 ∧ k < nI n := by
  obtain ⟨j, hj, rfl⟩ := vp_in_of h hn
  exact ⟨nI_pos (by omega), nI_lt hj hn⟩
set_option maxHeartbeats 4000000 in
set_option maxRecDepth 100000 in
theorem ct_charAt1 (l : Launch) (D : va_G) (C : Nat → ClassId) (wf : St → va_W) (adK adV : Nat → Nat) (fr : Nat → Prop) {i : Nat} (hi : i < 17) {k : Int32} (hk : vp_in k (sLen.getD i 0)) {σ : St} : Met l yJ1_charAt_3b067 (Cond.code yJ1_charAt_3b067 cJ1_charAt_3b067 2 (some .char) :: wsL_law) rm_J1_charAt_3b067 (Pcx D C wf adK adV fr [.ref (adV i), .int k] σ) (Qcx D wf fr (some (.int (strAt i k))) σ) 0 0 fr := by
  refine Met.ofW (cc := cJ1_charAt_3b067) (maxL := 2) (ret := (some .char)) (by decide) rfl ?_
  intro p e s m args below meth c s₁ B hml hv
  obtain ⟨rfl, hP, hK, hZ⟩ := hv
  have cx : Cxx D C adK adV fr p s m _ meth c cJ1_charAt_3b067 2 RJ1 (some .char) := ⟨B.exec, B.bytes, hml, findClass_of_methodNamed B.named, fun w h => atoms_spec (ws := Cond.code yJ1_charAt_3b067 cJ1_charAt_3b067 2 (some .char) :: wsL_law) B.pre w (List.mem_cons_of_mem _ h), hK, B.returns, B.notSynchronized, hZ⟩
  obtain ⟨hx, hb, -, hown, hts, -, hr, hlk, -⟩ := id cx
  have hS : va_S fr s.heap s.heap [] := va_S.rf
  have hl := lv_entry ([.ref (adV i), .int k]) (n := 2) (Nat.le_of_ble_eq_true rfl)
  rw [lg_entry_eq]
  generalize (lg_sl ([.ref (adV i), .int k]) ++ List.replicate (2 - (lg_sl ([.ref (adV i), .int k])).length) Slot.unset).toArray = ls at hl ⊢
  have hl : lv_has ls 2 [(0, .ref (adV i)), (1, .int k)] := hl
  show W p l e rm_J1_charAt_3b067 s m _ below meth c s.heap [] 0 0 _ _
  obtain ⟨h0, h1⟩ := ib_lt (sLen_lt hi) hk
  refine lv_iload_n hx hb dJ1_charAt_3b067_0 rfl (lv_at hl 1 rfl) ?_
  refine lv_aload_n hx hb dJ1_charAt_3b067_1 rfl (lv_at hl 0 rfl) ?_
  refine va_tlen hx hb (hZ.1.1 i hi).2.2.2 hS (v := nI (sLen.getD i 0)) rfl dJ1_charAt_3b067_2 ?_
  refine cx_S (As := [.int k, .int (nI (sLen.getD i 0))]) (rest := []) cx (ct_check0 l D C wf adK adV fr h0 h1) (cw_J1_9 hts ⟨Nat.le_of_ble_eq_true rfl, Nat.le_of_ble_eq_true rfl⟩) hP hS rfl hl.1 rfl (Nat.le_of_ble_eq_true rfl) dJ1_charAt_3b067_3 ⟨Nat.zero_le _, Nat.zero_le _⟩ (fun H locs hP hS => ?_)
  refine lv_aload_n hx hb dJ1_charAt_3b067_6 rfl (lv_at hl 0 rfl) ?_
  refine lv_iload_n hx hb dJ1_charAt_3b067_7 rfl (lv_at hl 1 rfl) ?_
  refine va_tb hx hb (hZ.1.1 i hi).2.2.2 hS hk (v := .int ((sByt.getD i []).getD k.toNatClampNeg 0)) rfl dJ1_charAt_3b067_8 ?_
  refine lv_sipush (v := 255) hx hb dJ1_charAt_3b067_9 (by decide) ?_
  refine lv_iand hx hb dJ1_charAt_3b067_12 ?_
  refine lv_i2c hx hb dJ1_charAt_3b067_13 rfl ?_
  exact cx_tret cx (pk_nc _) hP hS dJ1_charAt_3b067_14
set_option maxHeartbeats 4000000 in
set_option maxRecDepth 100000 in
theorem ct_charAt (l : Launch) (D : va_G) (C : Nat → ClassId) (wf : St → va_W) (adK adV : Nat → Nat) (fr : Nat → Prop) {i : Nat} (hi : i < 17) {k : Int32} (hk : vp_in k (sLen.getD i 0)) {σ : St} : Met l yJ0_charAt_5068e (Cond.code yJ0_charAt_5068e cJ0_charAt_5068e 2 (some .char) :: wsL_law) rm_J0_charAt_5068e (Pcx D C wf adK adV fr [.ref (adK i), .int k] σ) (Qcx D wf fr (some (.int (strAt i k))) σ) 0 0 fr := by
  refine Met.ofW (cc := cJ0_charAt_5068e) (maxL := 2) (ret := (some .char)) (by decide) rfl ?_
  intro p e s m args below meth c s₁ B hml hv
  obtain ⟨rfl, hP, hK, hZ⟩ := hv
  have cx : Cxx D C adK adV fr p s m _ meth c cJ0_charAt_5068e 2 RJ0 (some .char) := ⟨B.exec, B.bytes, hml, findClass_of_methodNamed B.named, fun w h => atoms_spec (ws := Cond.code yJ0_charAt_5068e cJ0_charAt_5068e 2 (some .char) :: wsL_law) B.pre w (List.mem_cons_of_mem _ h), hK, B.returns, B.notSynchronized, hZ⟩
  obtain ⟨hx, hb, -, hown, hts, -, hr, hlk, -⟩ := id cx
  have hS : va_S fr s.heap s.heap [] := va_S.rf
  have hl := lv_entry ([.ref (adK i), .int k]) (n := 2) (Nat.le_of_ble_eq_true rfl)
  rw [lg_entry_eq]
  generalize (lg_sl ([.ref (adK i), .int k]) ++ List.replicate (2 - (lg_sl ([.ref (adK i), .int k])).length) Slot.unset).toArray = ls at hl ⊢
  have hl : lv_has ls 2 [(0, .ref (adK i)), (1, .int k)] := hl
  show W p l e rm_J0_charAt_5068e s m _ below meth c s.heap [] 0 0 _ _
  refine lv_aload_n hx hb dJ0_charAt_5068e_0 rfl (lv_at hl 0 rfl) ?_
  refine cx_V (As := []) (rest := []) cx (ct_isLatin1 l D C wf adK adV fr hi) (cw_J0_492 hts ⟨Nat.le_of_ble_eq_true rfl, Nat.le_of_ble_eq_true rfl⟩) (vk_recv hZ.1 hi hS) hP hS rfl hl.1 rfl (Nat.le_of_ble_eq_true rfl) dJ0_charAt_5068e_1 ⟨Nat.zero_le _, Nat.zero_le _⟩ (fun H locs hP hS => ?_)
  refine lv_if_eq (tgt := 16) hx hb dJ0_charAt_5068e_4 (by decide) (fun c1 => absurd c1 (by decide)) (fun c1 => ?_)
  refine lv_aload_n hx hb dJ0_charAt_5068e_7 rfl (lv_at hl 0 rfl) ?_
  refine vk_getf hx hb (hZ.1.1 i hi).2.2.1 hS hown (hts _ kw_277) (fun _ h9 => h9) dJ0_charAt_5068e_8 ?_
  refine lv_iload_n hx hb dJ0_charAt_5068e_11 rfl (lv_at hl 1 rfl) ?_
  refine cx_S (As := [.ref (adV i), .int k]) (rest := []) cx (ct_charAt1 l D C wf adK adV fr hi hk) (cw_J0_495 hts ⟨Nat.le_of_ble_eq_true rfl, Nat.le_of_ble_eq_true rfl⟩) hP hS rfl hl.1 rfl (Nat.le_of_ble_eq_true rfl) dJ0_charAt_5068e_12 ⟨Nat.zero_le _, Nat.zero_le _⟩ (fun H locs hP hS => ?_)
  exact cx_tret cx (pk_nc _) hP hS dJ0_charAt_5068e_15
