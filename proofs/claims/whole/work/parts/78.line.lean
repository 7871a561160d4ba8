/-! both read a line -/
theorem PFail.wrap {σ0 τ0 : St} {rx rm : Option (Int32 × St)} (h : PFail σ0 τ0 rx rm) : PFail σ0 τ0 (bd rx fun r σ => (if nb r = true then (some (r, σ)) else none)) rm := by
  obtain ⟨k, s, σ', τ', e1, e2⟩ := h
  exact ⟨k, s, σ', τ', by rw [e1, bd_is, if_pos (by decide)], e2⟩
theorem PSucc.wrap {bt : Nat → Int32} {L n : Nat} {D : Nat → Ln} {σ0 τ0 : St} {rx rm : Option (Int32 × St)} (h : PSucc bt L D n σ0 τ0 rx rm) : PSucc bt L D n σ0 τ0 (bd rx fun r σ => (if nb r = true then (some (r, σ)) else none)) rm := by
  obtain ⟨x, T, σ', τ', e1, e2⟩ := h
  exact ⟨x, T, σ', τ', by rw [e1, bd_is, if_pos (by decide)], e2⟩
theorem PFail.wrap2 {σ0 τ0 : St} {rx rm : Option (Int32 × St)} (h : PFail σ0 τ0 rx rm) : PFail σ0 τ0 (bd rx fun r σ => (if r = 0 then (some (0, σ)) else (some (1, σ)))) rm := by
  obtain ⟨k, s, σ', τ', e1, e2⟩ := h
  exact ⟨k, s, σ', τ', by rw [e1, bd_is, if_pos rfl], e2⟩
theorem PSucc.wrap2 {bt : Nat → Int32} {L n : Nat} {D : Nat → Ln} {σ0 τ0 : St} {rx rm : Option (Int32 × St)} (h : PSucc bt L D n σ0 τ0 rx rm) : PSucc bt L D n σ0 τ0 (bd rx fun r σ => (if r = 0 then (some (0, σ)) else (some (1, σ)))) rm := by
  obtain ⟨x, T, σ', τ', e1, e2⟩ := h
  exact ⟨x, T, σ', τ', by rw [e1, bd_is, if_neg (by decide)], e2⟩
theorem unwrap {rx : Option (Int32 × St)} {r : Int32} {σ' : St} (h : (bd rx fun r σ => (if nb r = true then (some (r, σ)) else none)) = some (r, σ')) : rx = some (r, σ') := by
  cases rx with
  | none => cases h
  | some p =>
    obtain ⟨r0, s0⟩ := p
    rw [bd_is] at h
    by_cases e : nb r0 = true
    · rw [if_pos e] at h; exact h
    · rw [if_neg e] at h; cases h
theorem ky_14 : KC 14 ≠ KC 0 ∧ KC 14 ≠ KC 3 ∧ KC 14 ≠ KC 1 ∧ KC 14 ≠ KC 2 := by decide +kernel
theorem kyD_4 {T : Tk} : (if T.1 = 1 then kyD T.2.2.2 else -1) = 4 ↔ iw T 14 = true := by
  obtain ⟨k1, k2, k3, k4⟩ := ky_14
  unfold kyD iw
  by_cases e : T.1 = 1
  · rw [if_pos e]
    by_cases q : T.2.2.2 = KC 14
    · rw [decide_eq_true ⟨e, q⟩, if_neg (fun z => k1 (q.symm.trans z)), if_neg (fun z => k2 (q.symm.trans z)), if_neg (fun z => k3 (q.symm.trans z)), if_neg (fun z => k4 (q.symm.trans z)), if_pos q]
      exact ⟨fun _ => rfl, fun _ => rfl⟩
    · rw [decide_eq_false (fun z => q z.2)]
      constructor
      · intro z
        revert z
        split
        · decide
        · split
          · decide
          · split
            · decide
            · split
              · decide
              · decide
      · intro z; cases z
  · rw [if_neg e, decide_eq_false (fun z => e z.1)]
    decide
theorem iw_1 {T : Tk} (e : T.1 = 1) (i : Nat) : iw T i = decide (T.2.2.2 = KC i) := by
  unfold iw
  by_cases q : T.2.2.2 = KC i
  · rw [decide_eq_true q, decide_eq_true ⟨e, q⟩]
  · rw [decide_eq_false q, decide_eq_false (fun z => q z.2)]
theorem b1_if {p : Prop} [Decidable p] {α : Type} (a b : α) : (if b1 (decide p) = 0 then a else b) = if p then b else a := by
  by_cases h : p
  · rw [decide_eq_true h, if_neg (show ¬ b1 true = 0 by decide), if_pos h]
  · rw [decide_eq_false h, if_pos (show b1 false = 0 from rfl), if_neg h]
theorem x_op {bt : Nat → Int32} {L : Nat} {T : Tk} (hT : TO bt L T) {σ : St} (h : XTk T σ) : F_xX6_opOnTape σ = some (if T.1 = 1 then kyO T.2.2.2 else -1, σ) := by
  unfold F_xX6_opOnTape
  rw [x_isWord hT (i := 4) (by omega) h, bd_is]
  rw [x_isWord hT (i := 5) (by omega) h, bd_is]
  rw [x_isWord hT (i := 6) (by omega) h, bd_is]
  rw [x_isWord hT (i := 7) (by omega) h, bd_is]
  rw [x_isWord hT (i := 8) (by omega) h, bd_is]
  rw [x_isWord hT (i := 9) (by omega) h, bd_is]
  rw [x_isWord hT (i := 10) (by omega) h, bd_is]
  rw [x_isWord hT (i := 11) (by omega) h, bd_is]
  rw [x_isWord hT (i := 12) (by omega) h, bd_is]
  rw [x_isWord hT (i := 13) (by omega) h, bd_is]
  by_cases e : T.1 = 1
  · rw [if_pos e]
    simp only [iw_1 e, b1_if]
    unfold kyO
    split
    · rfl
    · split
      · rfl
      · split
        · rfl
        · split
          · rfl
          · split
            · rfl
            · split
              · rfl
              · split
                · rfl
                · split
                  · rfl
                  · split
                    · rfl
                    · split <;> rfl
  · have hf : ∀ i, iw T i = false := fun i => decide_eq_false (fun z => e z.1)
    simp only [hf, if_pos (show b1 false = 0 from rfl), if_neg e]
theorem kyO_is (v : Nat) : kyO v = -1 ∨ ∃ o, o ≤ 9 ∧ kyO v = nI o := by
  unfold kyO
  split
  · exact Or.inr ⟨0, by omega, rfl⟩
  · split
    · exact Or.inr ⟨1, by omega, rfl⟩
    · split
      · exact Or.inr ⟨2, by omega, rfl⟩
      · split
        · exact Or.inr ⟨3, by omega, rfl⟩
        · split
          · exact Or.inr ⟨4, by omega, rfl⟩
          · split
            · exact Or.inr ⟨5, by omega, rfl⟩
            · split
              · exact Or.inr ⟨6, by omega, rfl⟩
              · split
                · exact Or.inr ⟨7, by omega, rfl⟩
                · split
                  · exact Or.inr ⟨8, by omega, rfl⟩
                  · split
                    · exact Or.inr ⟨9, by omega, rfl⟩
                    · exact Or.inl rfl
theorem AgM.nm {n m0 m : Nat} {τ0 τ τ' : St} {S : List Nat} (h : AgM n m0 τ0 τ) (hm : m0 ≤ m) (hf : fr1 S [13] τ τ') {v : Int32} {w : Int64} (h13 : ∀ j, τ'.2.1 13 j = if j = m then v else τ.2.1 13 j) (hb : ∀ k, k ≠ 12 → τ'.2.2.2 k = τ.2.2.2 k) (h12 : ∀ j, τ'.2.2.2 12 j = if j = m then w else τ.2.2.2 12 j) : AgM n m0 τ0 τ' := by
  refine ⟨fun a ha l hl => ?_, fun j hj => ?_, fun l hl => ?_, fun j hj => ?_⟩
  · rw [hf.2 a (fun z => ha (List.mem_singleton.mp z))]; exact h.1 a ha l hl
  · rw [h13, if_neg (by omega)]; exact h.2.1 j hj
  · rw [hb 8 (by decide)]; exact h.2.2.1 l hl
  · rw [h12, if_neg (by omega)]; exact h.2.2.2 j hj
theorem l_rest {bt : Nat → Int32} {L : Nat} (hL : L ≤ 1200) {T : Tk} {σ τ σ0 τ0 σs τs : St} (h : RP bt L T σ τ) {D : Nat → Ln} {n : Nat} {x : Ln} (hP : PR D n σs τs) (hn : n < 40) (hAx : AgX n σs σ) (hAm : AgM n (ncF D n) τs τ) (ho : LO x) (hlx : LX x n σ) (hlm : LM x (ncF D n) n τ) (hnum : ln x = false) (hlb : lb x = 0) (h15 : τ.1 15 = nI (ncF D n + na x)) (hx14 : σ.1 14 = nI (n + 1)) (hm14 : τ.1 14 = nI n) (hX : GX σ0 σ) (hM : GM τ0 τ) :
    PFail σ0 τ0 (F_xX6_readOrderLine_104 (nI n) σ) (F_mX11_readLine_267 (nI n) τ) ∨ PSucc bt L D n σ0 τ0 (F_xX6_readOrderLine_104 (nI n) σ) (F_mX11_readLine_267 (nI n) τ) := by
  have hT := h.2.2.1
  have hnc := nc_le D n
  have hna := na_le x
  unfold F_xX6_readOrderLine_104 F_mX11_readLine_267
  rw [x_isWord hT (i := 14) (by omega) h.2.2.2.1, bd_is, m_key15 hL hT h.2.1 h.2.2.2.2, bd_is]
  cases hw : iw T 14 with
  | false =>
    rw [if_pos (show b1 false = 0 from rfl), if_neg (fun z => by rw [kyD_4, hw] at z; cases z)]
    have hbb : nbb x = 0 := if_pos hlb
    exact l_end hL h (PR_add hP hn hAx hAm ho hlx hlm (by rw [hbb]; exact h15)) hx14 hm14 hX hM
  | true =>
    obtain ⟨σ1, τ1, a1, a2, a3, a4, a5⟩ := b_step hL h
    rw [if_neg (show ¬ b1 true = 0 by decide), if_pos (kyD_4.mpr hw), a1, bv_is, a2, bv_is, if_pos (ib_nI (by omega) (by omega)), nI_clamp (by omega)]
    obtain ⟨T1, hT1⟩ : ∃ T1, T1 = tokF bt L T.2.2.1 := ⟨_, rfl⟩
    rw [← hT1] at a5
    have hTO1 := a5.2.2.1
    obtain ⟨σ2, hσ2⟩ : ∃ σ2, σ2 = sA (sA σ1 21 (upd (σ1.2.1 21) n (σ1.1 4))) 23 (upd (σ1.2.1 23) n (σ1.1 3)) := ⟨_, rfl⟩
    have hX1 : GX σ0 σ1 := fr1.tr hX (a3.wk (by decide) (by decide))
    have hM1 : GM τ0 τ1 := fr1.tr hM (a4.1.wk (by decide) (by decide))
    have hX2 : GX σ0 σ2 := by rw [hσ2]; exact fr1.sA (fr1.sA hX1 (by decide)) (by decide)
    have hR2 : RP bt L T1 σ2 τ1 := by rw [hσ2]; exact ⟨a5.1, a5.2.1, a5.2.2.1, a5.2.2.2.1, a5.2.2.2.2⟩
    have g2 : ∀ a, a ≠ 21 → a ≠ 23 → σ2.2.1 a = σ.2.1 a := fun a h1 h2 => by
      rw [hσ2, rA_A, if_neg h2, rA_A, if_neg h1]
      exact a3.2 a (List.not_mem_nil)
    have hAx2 : AgX n σs σ2 := by rw [hσ2]; exact ((hAx.st a3).up 21 _).up 23 _
    have hAm1 : AgM n (ncF D n) τs τ1 := hAm.st a4.1 a4.2
    have t15 : τ1.1 15 = nI (ncF D n + na x) := (a4.1.1 15 (by decide)).trans h15
    have ex : (sA (sA σ1 21 (upd (σ1.2.1 21) n (σ1.1 4))) 23 (upd (σ1.2.1 23) n (σ1.1 3))) = σ2 := hσ2.symm
    rw [ex]
    rcases l_name hL hR2 (m := ncF D n + na x) (by omega) t15 with ⟨q, b1', b2⟩ | ⟨q, σ3, τ3, b1', b2, b3, b4, b5, b6, b7, b8, b9⟩
    · left
      rw [b1', b2, bd_is, bd_is, if_pos rfl, if_pos (ib_nI (by omega) (by omega)), if_pos (by rw [u_is, if_pos rfl])]
      exact PFail.mk hX2 (τ := sA τ1 11 (upd (τ1.2.1 11) n (-1))) (fr1.sA hM1 (by decide)) 1 T1.2.1 rfl rfl
    · have hv := hTO1.2.2.2.1 q
      rw [b1', b2, bd_is, bd_is, if_neg (show ¬ (1 : Int32) = 0 by decide), if_pos (ib_nI (by omega) (by omega)), if_neg (by rw [u_is, if_pos rfl]; exact nI_m1 (by omega))]
      obtain ⟨τ4, hτ4⟩ : ∃ τ4, τ4 = sA τ3 11 (upd (τ3.2.1 11) n (nI (ncF D n + na x))) := ⟨_, rfl⟩
      rw [← hτ4]
      have hR4 : RP bt L (tokF bt L T1.2.2.1) σ3 τ4 := by rw [hτ4]; exact ⟨b9.1, b9.2.1, b9.2.2.1, b9.2.2.2.1, b9.2.2.2.2⟩
      have hX3 : GX σ0 σ3 := fr1.tr hX2 (b3.wk (by decide) (by decide))
      have hM4 : GM τ0 τ4 := by rw [hτ4]; exact fr1.sA (fr1.tr hM1 (b4.wk (by decide) (by decide))) (by decide)
      have hAx3 : AgX n σs σ3 := hAx2.st b3
      have hAm4 : AgM n (ncF D n) τs τ4 := by rw [hτ4]; exact (hAm1.nm (by omega) b4 b6 b7 b8).up (by decide) _
      have g3 : ∀ a, σ3.2.1 a = σ2.2.1 a := fun a => b3.2 a (List.not_mem_nil)
      have s21 : σ3.2.1 21 n = nI T1.2.2.2 := by
        rw [g3, hσ2]
        show upd (σ1.2.1 21) n (σ1.1 4) n = _
        rw [u_is, if_pos rfl]
        exact a5.2.2.2.1.2.2.2 (Or.inl q)
      have s23 : σ3.2.1 23 n = nI T1.2.1 := by
        rw [g3, hσ2]
        show upd (σ1.2.1 23) n (σ1.1 3) n = _
        rw [u_is, if_pos rfl]
        exact a5.2.2.2.1.2.2.1
      have hse : T1.2.1 ≤ 1200 := by have := hTO1.1; have := hTO1.2.1; omega
      have t4 : ∀ a, a ≠ 11 → a ≠ 13 → τ4.2.1 a = τ.2.1 a := fun a h1 h2 => by
        rw [hτ4, rA_A, if_neg h1, b4.2 a (fun z => h2 (List.mem_singleton.mp z))]
        exact a4.1.2 a (List.not_mem_nil)
      have t11 : τ4.2.1 11 n = nI (ncF D n + na x) := by
        rw [hτ4]
        show upd (τ3.2.1 11) n _ n = _
        rw [u_is, if_pos rfl]
      have t13 : ∀ j, τ4.2.1 13 j = if j = ncF D n + na x then nI T1.2.1 else τ.2.1 13 j := fun j => by
        rw [hτ4]
        show τ3.2.1 13 j = _
        rw [b6, a4.1.2 13 (List.not_mem_nil)]
      have tb : ∀ k, k ≠ 12 → τ4.2.2.2 k = τ.2.2.2 k := fun k hk => by
        rw [hτ4]
        show τ3.2.2.2 k = _
        rw [b7 k hk, a4.2]
      have t12 : ∀ j, τ4.2.2.2 12 j = if j = ncF D n + na x then nL T1.2.2.2 else τ.2.2.2 12 j := fun j => by
        rw [hτ4]
        show τ3.2.2.2 12 j = _
        rw [b8, a4.2]
      obtain ⟨x', hx'⟩ : ∃ x' : Ln, x' = (lc x, false, 0, lo x, la x, lpa x, T1.2.2.2, T1.2.1) := ⟨_, rfl⟩
      have hv0 : ¬ T1.2.2.2 = 0 := by omega
      have hna' : na x' = na x := by rw [hx']; rfl
      have hbb' : nbb x' = 1 := by
        rw [hx']
        exact if_neg hv0
      have ho' : LO x' := by
        rw [hx']
        exact ⟨ho.1, ho.2.1, ho.2.2.1, ho.2.2.2.1, hv.2.2.2.2, ho.2.2.2.2.2.1, hse, fun z => (by cases z)⟩
      have hlx' : LX x' n σ3 := by
        have hl := hlx.2.2 hnum
        rw [hx']
        refine ⟨?_, fun z => (by cases z), fun _ => ⟨?_, ?_, s21, fun z => ?_, fun _ => s23⟩⟩
        · rw [g3, g2 19 (by decide) (by decide)]; exact hlx.1
        · rw [g3, g2 24 (by decide) (by decide)]; exact hl.1
        · rw [g3, g2 20 (by decide) (by decide)]; exact hl.2.1
        · rw [g3, g2 22 (by decide) (by decide)]; exact hl.2.2.2.1 z
      have hlm' : LM x' (ncF D n) n τ4 := by
        have hl := hlm.2.2.1 hnum
        have e1 : lc x' = lc x := by rw [hx']
        have e2 : ln x' = false := by rw [hx']
        have e3 : lo x' = lo x := by rw [hx']
        have e4 : la x' = la x := by rw [hx']
        have e5 : lb x' = T1.2.2.2 := by rw [hx']
        have e6 : lpa x' = lpa x := by rw [hx']
        have e7 : lpb x' = T1.2.1 := by rw [hx']
        unfold LM
        rw [hna', e1, e2, e3, e4, e5, e6, e7]
        refine ⟨?_, fun z => (by cases z), fun _ => ⟨?_, ?_, ?_⟩, fun z => ⟨?_, ?_⟩, fun _ => ⟨?_, ?_⟩⟩
        · rw [tb 8 (by decide)]; exact hlm.1
        · rw [t4 9 (by decide) (by decide)]; exact hl.1
        · rw [t4 10 (by decide) (by decide)]; exact hl.2.1
        · rw [t11, if_neg hv0]
        · have : na x = 1 := if_neg z
          rw [t12, if_neg (by omega)]; exact (hlm.2.2.2.1 z).1
        · have : na x = 1 := if_neg z
          rw [t13, if_neg (by omega)]; exact (hlm.2.2.2.1 z).2
        · rw [t12, if_pos rfl]
        · rw [t13, if_pos rfl]
      refine l_end hL hR4 (PR_add hP hn hAx3 hAm4 ho' hlx' hlm' ?_) ((b3.1 14 (by decide)).trans (by rw [hσ2]; exact (a3.1 14 (by decide)).trans hx14)) (by rw [hτ4]; exact (b4.1 14 (by decide)).trans ((a4.1.1 14 (by decide)).trans hm14)) hX3 hM4
      rw [hna', hbb', hτ4]
      exact b5
