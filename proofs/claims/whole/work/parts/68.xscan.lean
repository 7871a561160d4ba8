/-! the class goes on to what comes next -/
theorem x_rw66 {s e : Nat} (hs : s ≤ e) (he : e ≤ 1200) {σ : St} (h1 : σ.1 1 = nI e) (h3 : σ.1 3 = nI s) : F_xX9_readWord_66 σ = some (sI σ 2 (if e - s ≤ 6 then 1 else 3)) := by
  unfold F_xX9_readWord_66
  rw [h1, h3, pk_sub hs]
  by_cases q : e - s ≤ 6
  · rw [if_pos (show nI (e - s) ≤ (6 : Int32) from nI_le (b := 6) q (by omega)), if_pos q]
  · rw [if_neg (show ¬ nI (e - s) ≤ (6 : Int32) from nI_ge (a := 6) (by omega) (by omega)), if_neg q]
theorem x_rn70 {s e : Nat} (hs : s ≤ e) (he : e ≤ 1200) {σ : St} (h1 : σ.1 1 = nI e) (h3 : σ.1 3 = nI s) : F_xX9_readNumber_70 σ = some (sI σ 2 (if e - s ≤ 9 then 2 else 3)) := by
  unfold F_xX9_readNumber_70
  rw [h1, h3, pk_sub hs]
  by_cases q : e - s ≤ 9
  · rw [if_pos (show nI (e - s) ≤ (9 : Int32) from nI_le (b := 9) q (by omega)), if_pos q]
  · rw [if_neg (show ¬ nI (e - s) ≤ (9 : Int32) from nI_ge (a := 9) (by omega) (by omega)), if_neg q]
theorem x_rw14 {L : Nat} {bt : Nat → Int32} (hL : L ≤ 1200) {s : Nat} : ∀ (n f p : Nat) (σ : St), p + n = L → n < f → s ≤ p → XB L bt σ → σ.1 1 = nI p → σ.1 3 = nI s → σ.1 4 = nI (wvF (fun j => cn bt (s + j)) (p - s)) →
    ∃ σ', F_xX9_readWord_14 f (cbI bt L p) σ = some σ' ∧ fr1 [1, 2, 4] [] σ σ' ∧ σ'.1 1 = nI (rE (isL bt L) n p) ∧ σ'.1 2 = (if rE (isL bt L) n p - s ≤ 6 then 1 else 3) ∧ σ'.1 4 = nI (wvF (fun j => cn bt (s + j)) (rE (isL bt L) n p - s)) := by
  intro n
  induction n with
  | zero =>
    intro f p σ hp hf hs hB h1 h3 h4
    match f, hf with
    | f + 1, _ =>
      unfold F_xX9_readWord_14
      rw [hB.1, h1, if_pos (nI_le (by omega) (by omega)), x_rw66 hs (by omega) h1 h3]
      exact ⟨_, rfl, fr1.rf.sI (by decide), h1, rfl, h4⟩
  | succ n ih =>
    intro f p σ hp hf hs hB h1 h3 h4
    match f, hf with
    | f + 1, hf =>
      unfold F_xX9_readWord_14 rE
      rw [hB.1, h1, if_neg (nI_ge (by omega) (by omega)), x_isL, bd_is]
      cases hl : isL bt L p with
      | false =>
        rw [if_pos (show b1 false = 0 from rfl), if_neg (show ¬ false = true by decide), x_rw66 hs (by omega) h1 h3]
        exact ⟨_, rfl, fr1.rf.sI (by decide), h1, rfl, h4⟩
      | true =>
        have hc : p < L ∧ 97 ≤ cn bt p ∧ cn bt p ≤ 122 := of_decide_eq_true hl
        rw [if_neg (show ¬ b1 true = 0 by decide), if_pos rfl]
        have hcb : cbI bt L p = nI (cn bt p) := if_pos hc.1
        unfold F_xX9_codeWith
        rw [bd_is, h1, h4, hcb, cw_nI hc.2.1, nI_1]
        have f1 : fr1 [1, 2, 4] [] σ (sI (sI σ 1 (nI (p + 1))) 4 (nI (wvF (fun j => cn bt (s + j)) (p - s) * 32 + (cn bt p - 96)))) := (fr1.rf.sI (by decide)).sI (by decide)
        have hB2 := hB.fr f1 (by decide) (by decide)
        rw [x_byteAt hL hB2 (by omega), bd_is]
        obtain ⟨σ', a1, a2, a3, a4, a5⟩ := ih f (p + 1) _ (by omega) (by omega) (by omega) hB2 rfl ((f1.1 3 (by decide)).trans h3) (by
          show nI (wvF (fun j => cn bt (s + j)) (p - s) * 32 + (cn bt p - 96)) = _
          rw [show p + 1 - s = (p - s) + 1 by omega]
          show _ = nI (wvF (fun j => cn bt (s + j)) (p - s) * 32 + (cn bt (s + (p - s)) - 96))
          rw [show s + (p - s) = p by omega])
        exact ⟨σ', a1, f1.tr a2, a3, a4, a5⟩
theorem x_rn14 {L : Nat} {bt : Nat → Int32} (hL : L ≤ 1200) {s : Nat} : ∀ (n f p : Nat) (σ : St), p + n = L → n < f → s ≤ p → XB L bt σ → σ.1 1 = nI p → σ.1 3 = nI s → σ.1 4 = nI (nvF (fun j => cn bt (s + j)) (p - s)) →
    ∃ σ', F_xX9_readNumber_14 f (cbI bt L p) σ = some σ' ∧ fr1 [1, 2, 4] [] σ σ' ∧ σ'.1 1 = nI (rE (isD bt L) n p) ∧ σ'.1 2 = (if rE (isD bt L) n p - s ≤ 9 then 2 else 3) ∧ σ'.1 4 = nI (nvF (fun j => cn bt (s + j)) (rE (isD bt L) n p - s)) := by
  intro n
  induction n with
  | zero =>
    intro f p σ hp hf hs hB h1 h3 h4
    match f, hf with
    | f + 1, _ =>
      unfold F_xX9_readNumber_14
      rw [hB.1, h1, if_pos (nI_le (by omega) (by omega)), x_rn70 hs (by omega) h1 h3]
      exact ⟨_, rfl, fr1.rf.sI (by decide), h1, rfl, h4⟩
  | succ n ih =>
    intro f p σ hp hf hs hB h1 h3 h4
    match f, hf with
    | f + 1, hf =>
      unfold F_xX9_readNumber_14 rE
      rw [hB.1, h1, if_neg (nI_ge (by omega) (by omega)), x_isD, bd_is]
      cases hl : isD bt L p with
      | false =>
        rw [if_pos (show b1 false = 0 from rfl), if_neg (show ¬ false = true by decide), x_rn70 hs (by omega) h1 h3]
        exact ⟨_, rfl, fr1.rf.sI (by decide), h1, rfl, h4⟩
      | true =>
        have hc : p < L ∧ 48 ≤ cn bt p ∧ cn bt p ≤ 57 := of_decide_eq_true hl
        rw [if_neg (show ¬ b1 true = 0 by decide), if_pos rfl]
        have hcb : cbI bt L p = nI (cn bt p) := if_pos hc.1
        rw [h1, h4, hcb, nw_nI hc.2.1, nI_1]
        have f1 : fr1 [1, 2, 4] [] σ (sI (sI σ 1 (nI (p + 1))) 4 (nI (nvF (fun j => cn bt (s + j)) (p - s) * 10 + (cn bt p - 48)))) := (fr1.rf.sI (by decide)).sI (by decide)
        have hB2 := hB.fr f1 (by decide) (by decide)
        rw [x_byteAt hL hB2 (by omega), bd_is]
        obtain ⟨σ', a1, a2, a3, a4, a5⟩ := ih f (p + 1) _ (by omega) (by omega) (by omega) hB2 rfl ((f1.1 3 (by decide)).trans h3) (by
          show nI (nvF (fun j => cn bt (s + j)) (p - s) * 10 + (cn bt p - 48)) = _
          rw [show p + 1 - s = (p - s) + 1 by omega]
          show _ = nI (nvF (fun j => cn bt (s + j)) (p - s) * 10 + (cn bt (s + (p - s)) - 48))
          rw [show s + (p - s) = p by omega])
        exact ⟨σ', a1, f1.tr a2, a3, a4, a5⟩
theorem cb_ne {bt : Nat → Int32} {L p c : Nat} (hc : c < 256) (h : cn bt p ≠ c) : ¬ cbI bt L p = nI c := fun q => h ((cb_eq hc).mp q).2
theorem x_adv54 {L : Nat} {bt : Nat → Int32} (hL : L ≤ 1200) {s : Nat} (hs : s ≤ L) {σ : St} (hB : XB L bt σ) (h1 : σ.1 1 = nI s) : ∃ σ', F_xX9_advance_54 (cbI bt L s) σ = some σ' ∧ fr1 [1, 2, 3, 4] [] σ σ' ∧ XTk (tokS bt L s) σ' := by
  unfold F_xX9_advance_54 tokS
  by_cases e0 : s < L
  · rw [if_neg (fun q => (cb_m1.mp q) e0), if_neg (fun q => q e0), h1]
    have f0 : fr1 [1, 2, 3, 4] [] σ (sI σ 3 (nI s)) := fr1.rf.sI (by decide)
    have hB0 := hB.fr f0 (by decide) (by decide)
    rw [x_isL, bd_is]
    cases hl : isL bt L s with
    | true =>
      rw [if_neg (show ¬ b1 true = 0 by decide), if_pos rfl]
      have f1 : fr1 [1, 2, 3, 4] [] σ (sI (sI σ 3 (nI s)) 4 0) := f0.sI (by decide)
      have hB1 := hB.fr f1 (by decide) (by decide)
      obtain ⟨σ', a1, a2, a3, a4, a5⟩ := x_rw14 hL (s := s) (L - s) FU s (sI (sI σ 3 (nI s)) 4 0) (by omega) (by rw [FU_is]; omega) (Nat.le_refl _) hB1 h1 rfl (by rw [Nat.sub_self]; rfl)
      have he : F_xX9_readWord (sI σ 3 (nI s)) = some σ' := by
        unfold F_xX9_readWord
        rw [show (sI σ 3 (nI s)).1 1 = nI s from h1, x_byteAt hL hB1 (by omega), bd_is]
        exact a1
      rw [he, bv_is]
      refine ⟨σ', rfl, f1.tr (a2.wk (by decide) (by decide)), ?_⟩
      have h3 : σ'.1 3 = nI s := (a2.1 3 (by decide)).trans rfl
      by_cases e1 : rE (isL bt L) (L - s) s - s ≤ 6
      · rw [if_pos e1] at a4 ⊢
        exact ⟨a3, a4, h3, fun _ => a5⟩
      · rw [if_neg e1] at a4 ⊢
        exact ⟨a3, a4, h3, fun q => by rcases q with q | q <;> cases q⟩
    | false =>
      rw [if_pos (show b1 false = 0 from rfl), if_neg (show ¬ false = true by decide), x_isD, bd_is]
      cases hd : isD bt L s with
      | true =>
        rw [if_neg (show ¬ b1 true = 0 by decide), if_pos rfl]
        have f1 : fr1 [1, 2, 3, 4] [] σ (sI (sI σ 3 (nI s)) 4 0) := f0.sI (by decide)
        have hB1 := hB.fr f1 (by decide) (by decide)
        obtain ⟨σ', a1, a2, a3, a4, a5⟩ := x_rn14 hL (s := s) (L - s) FU s (sI (sI σ 3 (nI s)) 4 0) (by omega) (by rw [FU_is]; omega) (Nat.le_refl _) hB1 h1 rfl (by rw [Nat.sub_self]; rfl)
        have he : F_xX9_readNumber (sI σ 3 (nI s)) = some σ' := by
          unfold F_xX9_readNumber
          rw [show (sI σ 3 (nI s)).1 1 = nI s from h1, x_byteAt hL hB1 (by omega), bd_is]
          exact a1
        rw [he, bv_is]
        refine ⟨σ', rfl, f1.tr (a2.wk (by decide) (by decide)), ?_⟩
        have h3 : σ'.1 3 = nI s := (a2.1 3 (by decide)).trans rfl
        by_cases e1 : rE (isD bt L) (L - s) s - s ≤ 9
        · rw [if_pos e1] at a4 ⊢
          exact ⟨a3, a4, h3, fun _ => a5⟩
        · rw [if_neg e1] at a4 ⊢
          exact ⟨a3, a4, h3, fun q => by rcases q with q | q <;> cases q⟩
      | false =>
        rw [if_pos (show b1 false = 0 from rfl), if_neg (show ¬ false = true by decide)]
        have e11 : (sI σ 3 (nI s)).1 1 = nI s := h1
        have sg : ∀ c, cn bt s = c → F_xX9_advance_128 (cbI bt L s) (sI σ 3 (nI s)) = some (sI (sI (sI σ 3 (nI s)) 1 (nI (s + 1))) 2 (nI (cn bt s))) := by
          intro c _
          unfold F_xX9_advance_128
          rw [e11, nI_1, show cbI bt L s = nI (cn bt s) from if_pos e0]
        have hcl := cn_lt bt s
        have out : (cn bt s = 58 ∨ cn bt s = 59 ∨ cn bt s = 61 ∨ cn bt s = 45) → ∃ σ', F_xX9_advance_128 (cbI bt L s) (sI σ 3 (nI s)) = some σ' ∧ fr1 [1, 2, 3, 4] [] σ σ' ∧ XTk (if cn bt s = 58 ∨ cn bt s = 59 ∨ cn bt s = 61 ∨ cn bt s = 45 then (cn bt s, s, s + 1, 0) else (3, s, s + 1, 0)) σ' := by
          intro hc
          rw [if_pos hc]
          refine ⟨_, sg _ rfl, (f0.sI (by decide)).sI (by decide), rfl, rfl, rfl, fun q => ?_⟩
          have q' : cn bt s = 1 ∨ cn bt s = 2 := q
          omega
        by_cases c1 : cn bt s = 58
        · rw [if_pos (show cbI bt L s = 58 from (cb_eq (c := 58) (by omega)).mpr ⟨e0, c1⟩)]
          exact out (by omega)
        · rw [if_neg (show ¬ cbI bt L s = 58 from cb_ne (c := 58) (by omega) c1)]
          by_cases c2 : cn bt s = 59
          · rw [if_pos (show cbI bt L s = 59 from (cb_eq (c := 59) (by omega)).mpr ⟨e0, c2⟩)]
            exact out (by omega)
          · rw [if_neg (show ¬ cbI bt L s = 59 from cb_ne (c := 59) (by omega) c2)]
            by_cases c3 : cn bt s = 61
            · rw [if_pos (show cbI bt L s = 61 from (cb_eq (c := 61) (by omega)).mpr ⟨e0, c3⟩)]
              exact out (by omega)
            · rw [if_neg (show ¬ cbI bt L s = 61 from cb_ne (c := 61) (by omega) c3)]
              by_cases c4 : cn bt s = 45
              · rw [if_pos (show cbI bt L s = 45 from (cb_eq (c := 45) (by omega)).mpr ⟨e0, c4⟩)]
                exact out (by omega)
              · rw [if_neg (show ¬ cbI bt L s = 45 from cb_ne (c := 45) (by omega) c4), if_neg (by omega), e11, nI_1]
                exact ⟨_, rfl, (f0.sI (by decide)).sI (by decide), rfl, rfl, rfl, fun q => by rcases q with q | q <;> cases q⟩
  · rw [if_pos (cb_m1.mpr e0), if_pos e0, h1]
    exact ⟨_, rfl, (fr1.rf.sI (by decide)).sI (by decide), h1, rfl, rfl, fun q => by rcases q with q | q <;> cases q⟩
theorem x_adv9 {L : Nat} {bt : Nat → Int32} (hL : L ≤ 1200) : ∀ (n f p : Nat) (σ : St), p + n = L → n < f → XB L bt σ → σ.1 1 = nI p → ∃ σ', F_xX9_advance_9 f (cbI bt L p) σ = some σ' ∧ fr1 [1, 2, 3, 4] [] σ σ' ∧ XTk (tokS bt L (rE (isB bt L) n p)) σ' := by
  intro n
  induction n with
  | zero =>
    intro f p σ hp hf hB h1
    match f, hf with
    | f + 1, _ =>
      unfold F_xX9_advance_9
      rw [hB.1, h1, if_pos (nI_le (by omega) (by omega))]
      exact x_adv54 hL (by omega) hB h1
  | succ n ih =>
    intro f p σ hp hf hB h1
    match f, hf with
    | f + 1, hf =>
      unfold F_xX9_advance_9 rE
      rw [hB.1, h1, if_neg (nI_ge (by omega) (by omega))]
      have go : ∃ σ', F_xX9_advance_32 (F_xX9_advance_9 f) σ = some σ' ∧ fr1 [1, 2, 3, 4] [] σ σ' ∧ XTk (tokS bt L (rE (isB bt L) n (p + 1))) σ' := by
        have f1 : fr1 [1, 2, 3, 4] [] σ (sI σ 1 (nI (p + 1))) := fr1.rf.sI (by decide)
        have hB1 := hB.fr f1 (by decide) (by decide)
        unfold F_xX9_advance_32
        rw [h1, nI_1, x_byteAt hL hB1 (by omega), bd_is]
        obtain ⟨σ', a1, a2, a3⟩ := ih f (p + 1) _ (by omega) (by omega) hB1 rfl
        exact ⟨σ', a1, f1.tr a2, a3⟩
      by_cases c1 : cn bt p = 32
      · rw [if_pos (show cbI bt L p = 32 from (cb_eq (c := 32) (by omega)).mpr ⟨by omega, c1⟩), show isB bt L p = true from decide_eq_true ⟨by omega, Or.inl c1⟩, if_pos rfl]
        exact go
      · rw [if_neg (show ¬ cbI bt L p = 32 from cb_ne (c := 32) (by omega) c1)]
        by_cases c2 : cn bt p = 10
        · rw [if_pos (show cbI bt L p = 10 from (cb_eq (c := 10) (by omega)).mpr ⟨by omega, c2⟩), show isB bt L p = true from decide_eq_true ⟨by omega, Or.inr c2⟩, if_pos rfl]
          exact go
        · rw [if_neg (show ¬ cbI bt L p = 10 from cb_ne (c := 10) (by omega) c2), show isB bt L p = false from decide_eq_false (fun q => by omega), if_neg (by decide)]
          exact x_adv54 hL (by omega) hB h1
theorem x_advance {L : Nat} {bt : Nat → Int32} (hL : L ≤ 1200) {p : Nat} (hp : p ≤ L) {σ : St} (hB : XB L bt σ) (h1 : σ.1 1 = nI p) : ∃ σ', F_xX9_advance σ = some σ' ∧ fr1 [1, 2, 3, 4] [] σ σ' ∧ XTk (tokF bt L p) σ' := by
  unfold F_xX9_advance
  rw [h1, x_byteAt hL hB (by omega), bd_is]
  exact x_adv9 hL (L - p) FU p σ (by omega) (by rw [FU_is]; omega) hB h1
