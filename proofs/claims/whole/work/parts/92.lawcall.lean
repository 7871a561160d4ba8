/-! a call in the law: one world changes, the other stays -/
theorem Zs.narrow {adK adV : Nat → Nat} {A B : Nat → Prop} {U : State} {H : Heap} (h : Zs adK adV A U H) (hAB : ∀ q, B q → A q) : Zs adK adV B U H := ⟨h.1.narrow hAB, h.2.1, h.2.2.1.narrow hAB, h.2.2.2.narrow hAB⟩
section LAWCALL
variable {p : Program} {l : Launch} {e : Env} {R : Room} {s : State} {m : MethodId} {args : Array Value} {below : List Frame} {meth : Method} {c : Code} {H : Heap} {locs : List Loc} {cells slots : Nat} {Q : State → Prop}
variable {cc : ByteArray} {pc : Nat} {ls : Array Slot} {rest st0 : List Value} {D : va_G} {C : Nat → ClassId} {wf : St → va_W} {adK adV : Nat → Nat} {fr Ab : Nat → Prop} {σ σ' : St} {r : Option Value} {a : Array Value}
variable {own Cn : String} {index n maxL nL : Nat} {y : MethodName} {bytes : ByteArray} {ret : Option FieldType} {ws : List Cond} {rm : Room} {b : Addr} {As : List Value} {w2 : va_W}
theorem cl_V (hfix : CallFix p m c cc nL s args wsL_law own) (hK : va_K D vwCl (tyL C) s) (hZ : Zs adK adV Ab s s.heap) (hfr : ∀ q, fr q → Ab q) (hM : Met l y ws rm (Pcx D C wf adK adV fr (Value.ref b :: As) σ) (Qcx D wf fr r σ') 0 0 fr) (cw : CallW R s args own Cn index y bytes maxL ret ws rm 0 0 n)
    (hrec : ∃ cell : Cell, H[b]? = some cell ∧ cell.vm.isStatics = false ∧ s.vm.findClass Cn = some cell.cls) (hP : va_P D vwCl (wf σ) H) (hP2 : va_P D vwCl w2 H) (hw2 : ∀ (k : Nat) (q : Nat × va_E), w2[k]? = some q → ¬ fr q.1) (hS : va_S Ab s.heap H locs) (hn : As.length = n) (hsize : ls.size = nL) (hstack : st0 = As.reverse ++ .ref b :: rest) (hW : (rest.map fun v => v.category).sum ≤ 8) (hdg : decode cc pc = .ok (.invokevirtual index, 3)) (hc : cells ≤ R.cells ∧ slots ≤ R.slots)
    (kk : ∀ (H1 : Heap) (locs1 : List Loc), va_P D vwCl (wf σ') H1 → va_P D vwCl w2 H1 → va_S Ab s.heap H1 locs1 → W p l e R s m args below meth c H1 locs1 cells slots Q (F0 m (pc + 3) ls (r.toList ++ rest))) : W p l e R s m args below meth c H locs cells slots Q (F0 m pc ls st0) := by
  intro T hT X
  obtain ⟨v, st₀, t, T', L, h0, X', hL, e1, e2, ⟨hv, hp, hz, hk⟩, st⟩ := (va_runV (As := As) (rest := rest) (g := F0 m pc ls st0) hfix hM cw ⟨Pcx.blind, hrec, fun U hU hW9 => ⟨rfl, by rw [hU]; exact hP, va_K.moved hW9.alike hK, (hZ.go hS hU hW9).narrow hfr⟩⟩ rfl hn hsize hstack (lv_room hW) hdg hc) T hT X
  cases hv
  rw [h0] at hz hk
  obtain ⟨t2, a1, b1⟩ := kk T'.heap (locs ++ L) (by rw [e1]; exact hp) (by
      rw [e1]
      exact hP2.kept (fun k x hx => hk x.1 ((hP2 k x hx).lt) (hw2 k x hx)))
    ⟨Nat.le_trans hS.1 (by rw [e1]; exact hz), fun q h1 h2 => by rw [e1, hk q (Nat.lt_of_lt_of_le h1 hS.1) (fun z => h2 (hfr q z))]; exact hS.2.1 q h1 h2, fun q hq => by
      rcases List.mem_append.mp hq with h | h
      · exact hS.2.2 q h
      · exact hfr _ (hL q h)⟩ T' rfl X'
  exact ⟨t2, st t2 a1, b1⟩
end LAWCALL
/-- what stands through the law's loop -/
def LwC (D : va_G) (C : Nat → ClassId) (adK adV A B : Nat → Nat) (p : Program) (s : State) (m : MethodId) (meth : Method) (c : Code) (b L : Nat) (xs : Nat → Int32) : Prop := lw_At p s m meth c b L xs ∧ va_K D vwCl (tyL C) s ∧ Zs adK adV (fun q => s.heap.size ≤ q) s s.heap ∧ apA A 60 ∧ apA B 33 ∧ (∀ k, k < 60 → s.heap.size ≤ A k) ∧ (∀ k, k < 33 → s.heap.size ≤ B k) ∧ ∀ i j, i < 60 → j < 33 → A i ≠ B j
theorem wM_at {B : Nat → Nat} {C : Nat → ClassId} {τ : St} {k : Nat} {q : Nat × va_E} (h : (wM B C τ)[k]? = some q) : k < 33 ∧ q.1 = B k := by
  have hk : k < 33 := (List.getElem?_eq_some_iff.mp h).1
  have h1 : ((wM B C τ).map Prod.fst)[k]? = some q.1 := by rw [List.getElem?_map, h]; rfl
  rw [show (wM B C τ).map Prod.fst = (List.range 33).map B from rfl, List.getElem?_map, List.getElem?_range hk] at h1
  exact ⟨hk, (Option.some.inj h1).symm⟩
theorem wX_at {A : Nat → Nat} {C : Nat → ClassId} {σ : St} {k : Nat} {q : Nat × va_E} (h : (wX A C σ)[k]? = some q) : k < 60 ∧ q.1 = A k := by
  have hk : k < 60 := (List.getElem?_eq_some_iff.mp h).1
  have h1 : ((wX A C σ).map Prod.fst)[k]? = some q.1 := by rw [List.getElem?_map, h]; rfl
  rw [show (wX A C σ).map Prod.fst = (List.range 60).map A from rfl, List.getElem?_map, List.getElem?_range hk] at h1
  exact ⟨hk, (Option.some.inj h1).symm⟩
