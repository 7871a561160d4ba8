/-! best: the class chooses and sorts -/
theorem x_sort5 {k s : Nat} (hk : k < 6) (hs : s < 128) : ∀ (j f : Nat) (g : Nat → Nat) (σ : St), j ≤ k → j < f → (∀ i, i ≤ k → i ≠ j → σ.2.1 54 i = nI (g i) ∧ g i < 128) → ∃ σ', F_xX8_sortIn_5 f (nI s) (nI j) σ = some σ' ∧ fr1 [] [54] σ σ' ∧ ∀ i, i ≤ k → σ'.2.1 54 i = nI (insF s j g i) := by
  have put : ∀ (j : Nat) (g : Nat → Nat) (σ : St), j ≤ k → (∀ i, i ≤ k → i ≠ j → σ.2.1 54 i = nI (g i) ∧ g i < 128) → ∃ σ', F_xX8_sortIn_47 (nI s) (nI j) σ = some σ' ∧ fr1 [] [54] σ σ' ∧ ∀ i, i ≤ k → σ'.2.1 54 i = nI (vf_upd g j s i) := by
    intro j g σ hj hg
    refine ⟨sA σ 54 (upd (σ.2.1 54) j (nI s)), ?_, fr1.rf.sA (by decide), fun i hi => ?_⟩
    · unfold F_xX8_sortIn_47
      rw [if_neg (nI_pos (by omega)), if_neg (show ¬ (6 : Int32) ≤ nI j from nI_ge (b := 6) (by omega) (by omega)), if_pos (ib_nI (by omega) (by omega)), nI_clamp (by omega)]
    · show upd (σ.2.1 54) j (nI s) i = _
      rw [u_is]
      unfold vf_upd
      by_cases e : i = j
      · rw [if_pos e, if_pos e]
      · rw [if_neg e, if_neg e]; exact (hg i hi e).1
  intro j
  induction j with
  | zero =>
    intro f g σ hj hf hg
    match f, hf with
    | f + 1, _ =>
      unfold F_xX8_sortIn_5
      rw [if_pos (show nI 0 ≤ (0 : Int32) from nI_le (a := 0) (b := 0) (Nat.le_refl 0) (by omega))]
      exact put 0 g σ hj hg
  | succ j ih =>
    intro f g σ hj hf hg
    match f, hf with
    | f + 1, hf =>
      obtain ⟨g1, g2⟩ := hg j (by omega) (by omega)
      unfold F_xX8_sortIn_5 insF
      rw [if_neg (show ¬ nI (j + 1) ≤ (0 : Int32) from nI_ge (a := 0) (by omega) (by omega)), if_neg (show ¬ (6 : Int32) ≤ nI (j + 1) from nI_ge (b := 6) (by omega) (by omega)), nI_sub1 (by omega) (by omega), show j + 1 - 1 = j by omega, if_pos (ib_nI (by omega) (by omega)), nI_clamp (by omega), g1]
      by_cases e : g j ≤ s
      · rw [if_pos (nI_le e (by omega)), if_pos e]
        exact put (j + 1) g σ hj hg
      · rw [if_neg (nI_ge (by omega) (by omega)), if_neg e, if_pos (ib_nI (by omega) (by omega)), nI_clamp (by omega), nI_dec (by omega) (by omega), show j + 1 - 1 = j by omega]
        have f1 : fr1 [] [54] σ (sA σ 54 (upd (σ.2.1 54) (j + 1) (nI (g j)))) := fr1.rf.sA (by decide)
        obtain ⟨σ', a1, a2, a3⟩ := ih f (vf_upd g (j + 1) (g j)) (sA σ 54 (upd (σ.2.1 54) (j + 1) (nI (g j)))) (by omega) (by omega) (fun i hi hij => by
          show upd (σ.2.1 54) (j + 1) (nI (g j)) i = nI (vf_upd g (j + 1) (g j) i) ∧ vf_upd g (j + 1) (g j) i < 128
          rw [u_is]
          unfold vf_upd
          by_cases e2 : i = j + 1
          · rw [if_pos e2, if_pos e2]; exact ⟨rfl, g2⟩
          · rw [if_neg e2, if_neg e2]; exact hg i hi e2)
        exact ⟨σ', a1, f1.tr a2, a3⟩
theorem x_choose7 {w t : Nat} {rd pl : Nat → Nat} (hd : DOK w t rd pl) {c : Nat} {B : Nat → Bool} {sp : Nat → Nat} {bad : Nat → Int32} (hc : c ≤ 40) (hL : LOK w t pl c sp) (hK : fb_ct B c ≤ 6) {x : Int64} (hx : ∀ k, B k = x.toBitVec.toNat.testBit k) : ∀ (f i : Nat) (σ : St), i ≤ c → c < f + i → XL w rd c sp bad σ → σ.1 31 = nI (fb_ct B i) → (∀ n, n < i → B n = true → σ.2.1 53 (fb_ct B n) = nI n) → (∀ j, j < fb_ct B i → σ.2.1 54 j = nI (rwF B sp i j)) → (∀ n, n < i → B n = true → bad (sp n) = 0) →
    ∃ σ', fr1 [31] [53, 54] σ σ' ∧ (((∃ n, n < c ∧ B n = true ∧ bad (sp n) ≠ 0) ∧ F_xX8_choose_7 f x (nI i) σ = some (0, σ')) ∨ ((∀ n, n < c → B n = true → bad (sp n) = 0) ∧ F_xX8_choose_7 f x (nI i) σ = some (1, σ') ∧ σ'.1 31 = nI (fb_ct B c) ∧ (∀ n, n < c → B n = true → σ'.2.1 53 (fb_ct B n) = nI n) ∧ ∀ j, j < fb_ct B c → σ'.2.1 54 j = nI (rwF B sp c j))) := by
  intro f
  induction f with
  | zero => intro i σ h1 h2; omega
  | succ f ih =>
    intro i σ hi hf hX h31 h53 h54 hb
    unfold F_xX8_choose_7
    rw [x_cnt hX.1, bd_is]
    by_cases e : i = c
    · subst e
      rw [if_pos (nI_le (Nat.le_refl _) (by omega))]
      exact ⟨σ, fr1.rf, Or.inr ⟨hb, rfl, h31, h53, h54⟩⟩
    · have hlt : i < c := by omega
      rw [if_neg (nI_ge hlt (by omega))]
      have hcs : fb_ct B (i + 1) = fb_ct B i + (if B i then 1 else 0) := rfl
      cases hB : B i with
      | false =>
        rw [if_pos ((xbit_0 (by omega)).mpr (by rw [← hx]; exact hB)), nI_1]
        rw [hB] at hcs
        have hcs' : fb_ct B (i + 1) = fb_ct B i := hcs
        have hrw : rwF B sp (i + 1) = rwF B sp i := by
          show (if B i then _ else _) = _
          rw [hB, if_neg (by decide)]
        refine ih (i + 1) σ (by omega) (by omega) hX (by rw [hcs']; exact h31) (fun n hn hBn => ?_) (by rw [hcs', hrw]; exact h54) (fun n hn hBn => ?_)
        · by_cases e2 : n = i
          · rw [e2, hB] at hBn; cases hBn
          · exact h53 n (by omega) hBn
        · by_cases e2 : n = i
          · rw [e2, hB] at hBn; cases hBn
          · exact hb n (by omega) hBn
      | true =>
        have hkc := fb_lt B hlt hB
        rw [hB] at hcs
        have hcs' : fb_ct B (i + 1) = fb_ct B i + 1 := hcs
        have hsp := (there_lt hd (hL.1 i hlt)).1
        rw [if_neg (fun q => by rw [xbit_0 (by omega), ← hx, hB] at q; cases q), h31, if_neg (nI_pos (by omega)), if_pos (show nI (fb_ct B i) < (6 : Int32) from nI_lt (b := 6) (by omega) (by omega)), x_lob hd hL hc hlt hX, bd_is]
        by_cases hbd : bad (sp i) = 0
        · rw [if_pos hbd, if_pos rfl, h31, if_pos (ib_nI (by omega) (by omega)), if_pos (ib_nI (by omega) (by omega)), nI_clamp (by omega), nI_clamp (by omega), (hX.2.1 i hlt).1]
          obtain ⟨k, hk⟩ : ∃ k, k = fb_ct B i := ⟨_, rfl⟩
          rw [← hk] at hkc hcs' h31 h54 ⊢
          have hval := (rw_ok (B := B) hL.2 i hi).2
          obtain ⟨σ1, a1, a2, a3⟩ := x_sort5 (k := k) (s := sp i) (by omega) hsp k FU (rwF B sp i) (sA σ 53 (upd (σ.2.1 53) k (nI i))) (Nat.le_refl _) (by rw [FU_is]; omega) (fun j hj hne => by
            refine ⟨h54 j (by omega), ?_⟩
            obtain ⟨m, m1, m2, m3⟩ := (hval _).mp ⟨j, by omega, rfl⟩
            rw [← m3]
            exact (there_lt hd (hL.1 m (by omega))).1)
          have e31 : (sA σ 53 (upd (σ.2.1 53) k (nI i))).1 31 = nI k := h31
          have hso : F_xX8_sortIn (nI (sp i)) (sA σ 53 (upd (σ.2.1 53) k (nI i))) = some σ1 := by
            unfold F_xX8_sortIn
            rw [e31]
            exact a1
          have f0 : fr1 [31] [53, 54] σ (sA σ 53 (upd (σ.2.1 53) k (nI i))) := fr1.rf.sA (by decide)
          have f1 : fr1 [31] [53, 54] σ σ1 := f0.tr (a2.wk (by decide) (by decide))
          have f2 : fr1 [31] [53, 54] σ (sI σ1 31 (nI (k + 1))) := f1.sI (by decide)
          rw [hso, bv_is, (a2.1 31 (by decide)).trans e31, nI_1, nI_1]
          have h53' : ∀ j, σ1.2.1 53 j = upd (σ.2.1 53) k (nI i) j := fun j => by rw [a2.2 53 (by decide)]; rfl
          have hX2 : XL w rd c sp bad (sI σ1 31 (nI (k + 1))) := by
            have hm : ∀ k, k ∈ [26, 27, 28, 29, 30] → σ1.2.1 k = σ.2.1 k := fun k hk => f1.2 k (fun z => by
              have : ∀ k, k ∈ [26, 27, 28, 29, 30] → k ∉ [53, 54] := by decide
              exact this k hk z)
            have h17 : (sI σ1 31 (nI (k + 1))).1 17 = σ.1 17 := f2.1 17 (by decide)
            show (sI σ1 31 (nI (k + 1))).1 17 = _ ∧ (∀ n, n < c → σ1.2.1 26 n = _ ∧ σ1.2.1 27 n = _ ∧ σ1.2.1 28 n = _ ∧ σ1.2.1 29 (sp n) = _) ∧ (∀ s, s < 128 → (∀ n, n < c → sp n ≠ s) → σ1.2.1 29 s = -1) ∧ ∀ s, s < 128 → σ1.2.1 30 s = bad s
            rw [h17, hm 26 (by decide), hm 27 (by decide), hm 28 (by decide), hm 29 (by decide), hm 30 (by decide)]
            exact hX
          have hrw : rwF B sp (i + 1) = insF (sp i) k (rwF B sp i) := by
            show (if B i then insF (sp i) (fb_ct B i) (rwF B sp i) else _) = _
            rw [hB, if_pos rfl, ← hk]
          obtain ⟨σ', b1, b2⟩ := ih (i + 1) (sI σ1 31 (nI (k + 1))) (by omega) (by omega) hX2 (by rw [hcs']; rfl) (fun n hn hBn => by
            show σ1.2.1 53 (fb_ct B n) = nI n
            rw [h53', u_is]
            by_cases e2 : n = i
            · rw [e2, if_pos hk.symm]
            · rw [if_neg (fun q => e2 (fb_inj B hBn hB (q.trans hk)))]
              exact h53 n (by omega) hBn) (fun j hj => by
            show σ1.2.1 54 j = _
            rw [hrw]
            exact a3 j (by omega)) (fun n hn hBn => by
            by_cases e2 : n = i
            · rw [e2]; exact hbd
            · exact hb n (by omega) hBn)
          exact ⟨σ', f2.tr b1, b2⟩
        · rw [if_neg hbd, if_neg (by decide)]
          exact ⟨σ, fr1.rf, Or.inl ⟨⟨i, hlt, hB, hbd⟩, rfl⟩⟩
