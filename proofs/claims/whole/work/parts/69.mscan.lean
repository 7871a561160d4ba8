/-! the reference goes on to what comes next -/
def frB (S Q : List Nat) (τ τ' : St) : Prop := fr1 S Q τ τ' ∧ τ'.2.2.2 = τ.2.2.2
theorem frB.rf {S Q : List Nat} {τ : St} : frB S Q τ τ := ⟨fr1.rf, rfl⟩
theorem frB.tr {S Q : List Nat} {τ τ' τ'' : St} (h : frB S Q τ τ') (h2 : frB S Q τ' τ'') : frB S Q τ τ'' := ⟨h.1.tr h2.1, h2.2.trans h.2⟩
theorem frB.sI {S Q : List Nat} {τ τ' : St} {k : Nat} {v : Int32} (h : frB S Q τ τ') (hk : k ∈ S) : frB S Q τ (sI τ' k v) := ⟨h.1.sI hk, h.2⟩
theorem frB.sJ {S Q : List Nat} {τ τ' : St} {k : Nat} {v : Int64} (h : frB S Q τ τ') : frB S Q τ (sJ τ' k v) := ⟨⟨fun j hj => h.1.1 j hj, fun a ha => h.1.2 a ha⟩, h.2⟩
theorem frB.wk {S Q S' Q' : List Nat} {τ τ' : St} (h : frB S Q τ τ') (h1 : ∀ k, k ∈ S → k ∈ S') (h2 : ∀ k, k ∈ Q → k ∈ Q') : frB S' Q' τ τ' := ⟨h.1.wk h1 h2, h.2⟩
theorem isL_L (bt : Nat → Int32) {L p : Nat} (h : L ≤ p) : isL bt L p = false := decide_eq_false (fun q => by omega)
theorem isD_L (bt : Nat → Int32) {L p : Nat} (h : L ≤ p) : isD bt L p = false := decide_eq_false (fun q => by omega)
theorem m_s75 {L : Nat} {bt : Nat → Int32} (hL : L ≤ 1200) {s : Nat} : ∀ (n f p : Nat) (τ : St), p + n = L → n < f → s ≤ p → MB L bt τ → τ.2.2.1 0 = nL (wvF (fun j => cn bt (s + j)) (min (p - s) 6)) →
    ∃ τ', F_mX11_scan_75 f (nI s) (nI p) τ = some τ' ∧ frB [2, 4] [] τ τ' ∧ τ'.1 4 = nI (rE (isL bt L) n p) ∧ τ'.1 2 = (if rE (isL bt L) n p - s ≤ 6 then 1 else 0) ∧ τ'.2.2.1 0 = nL (wvF (fun j => cn bt (s + j)) (min (rE (isL bt L) n p - s) 6)) := by
  intro n
  induction n with
  | zero =>
    intro f p τ hp hf hs hB hJ
    match f, hf with
    | f + 1, _ =>
      unfold F_mX11_scan_75
      rw [m_see hL hB (by omega), bd_is, m_isL, bd_is, isL_L bt (by omega), if_pos (show b1 false = 0 from rfl), pk_sub hs]
      show ∃ τ' : St, _ ∧ _ ∧ τ'.1 4 = nI p ∧ τ'.1 2 = (if p - s ≤ 6 then 1 else 0) ∧ τ'.2.2.1 0 = nL (wvF (fun j => cn bt (s + j)) (min (p - s) 6))
      by_cases q : p - s ≤ 6
      · rw [if_pos (show nI (p - s) ≤ (6 : Int32) from nI_le (b := 6) q (by omega)), if_pos q]
        exact ⟨_, rfl, (frB.rf.sI (by decide)).sI (by decide), rfl, rfl, hJ⟩
      · rw [if_neg (show ¬ nI (p - s) ≤ (6 : Int32) from nI_ge (a := 6) (by omega) (by omega)), if_neg q]
        exact ⟨_, rfl, (frB.rf.sI (by decide)).sI (by decide), rfl, rfl, hJ⟩
  | succ n ih =>
    intro f p τ hp hf hs hB hJ
    match f, hf with
    | f + 1, hf =>
      unfold F_mX11_scan_75
      rw [m_see hL hB (by omega), bd_is, m_isL, bd_is, pk_sub hs]
      cases hl : isL bt L p with
      | false =>
        rw [if_pos (show b1 false = 0 from rfl)]
        have er : rE (isL bt L) (n + 1) p = p := by
          show (if isL bt L p then _ else p) = p
          rw [hl]; rfl
        rw [er]
        by_cases q : p - s ≤ 6
        · rw [if_pos (show nI (p - s) ≤ (6 : Int32) from nI_le (b := 6) q (by omega)), if_pos q]
          exact ⟨_, rfl, (frB.rf.sI (by decide)).sI (by decide), rfl, rfl, hJ⟩
        · rw [if_neg (show ¬ nI (p - s) ≤ (6 : Int32) from nI_ge (a := 6) (by omega) (by omega)), if_neg q]
          exact ⟨_, rfl, (frB.rf.sI (by decide)).sI (by decide), rfl, rfl, hJ⟩
      | true =>
        have hc : p < L ∧ 97 ≤ cn bt p ∧ cn bt p ≤ 122 := of_decide_eq_true hl
        have er : rE (isL bt L) (n + 1) p = rE (isL bt L) n (p + 1) := by
          show (if isL bt L p then rE (isL bt L) n (p + 1) else p) = _
          rw [hl]; rfl
        rw [er, if_neg (show ¬ b1 true = 0 by decide), nI_1]
        by_cases q : 6 ≤ p - s
        · rw [if_pos (show (6 : Int32) ≤ nI (p - s) from nI_le (a := 6) q (by omega))]
          exact ih f (p + 1) τ (by omega) (by omega) (by omega) hB (by rw [hJ, show min (p - s) 6 = 6 by omega, show min (p + 1 - s) 6 = 6 by omega])
        · rw [if_neg (show ¬ (6 : Int32) ≤ nI (p - s) from nI_ge (b := 6) (by omega) (by omega)), m_see hL hB (by omega), bd_is, hJ, show cbI bt L p = nI (cn bt p) from if_pos hc.1, cw_nL hc.2.1 (cn_lt bt p)]
          obtain ⟨τ', a1, a2, a3⟩ := ih f (p + 1) (sJ τ 0 (nL (wvF (fun j => cn bt (s + j)) (min (p - s) 6) * 32 + (cn bt p - 96)))) (by omega) (by omega) (by omega) hB (by
            show nL (wvF (fun j => cn bt (s + j)) (min (p - s) 6) * 32 + (cn bt p - 96)) = _
            rw [show min (p + 1 - s) 6 = (p - s) + 1 by omega, show min (p - s) 6 = p - s by omega]
            show _ = nL (wvF (fun j => cn bt (s + j)) (p - s) * 32 + (cn bt (s + (p - s)) - 96))
            rw [show s + (p - s) = p by omega])
          exact ⟨τ', a1, (frB.rf.sJ).tr a2, a3⟩
theorem m_s160 {L : Nat} {bt : Nat → Int32} (hL : L ≤ 1200) {s : Nat} : ∀ (n f p : Nat) (τ : St), p + n = L → n < f → s ≤ p → MB L bt τ → τ.1 5 = nI (nvF (fun j => cn bt (s + j)) (min (p - s) 9)) →
    ∃ τ', F_mX11_scan_160 f (nI s) (nI p) τ = some τ' ∧ frB [2, 4, 5] [] τ τ' ∧ τ'.1 4 = nI (rE (isD bt L) n p) ∧ τ'.1 2 = (if rE (isD bt L) n p - s ≤ 9 then 2 else 0) ∧ τ'.1 5 = nI (nvF (fun j => cn bt (s + j)) (min (rE (isD bt L) n p - s) 9)) := by
  intro n
  induction n with
  | zero =>
    intro f p τ hp hf hs hB hJ
    match f, hf with
    | f + 1, _ =>
      unfold F_mX11_scan_160
      rw [m_see hL hB (by omega), bd_is, m_isD, bd_is, isD_L bt (by omega), if_pos (show b1 false = 0 from rfl), pk_sub hs]
      show ∃ τ' : St, _ ∧ _ ∧ τ'.1 4 = nI p ∧ τ'.1 2 = (if p - s ≤ 9 then 2 else 0) ∧ τ'.1 5 = nI (nvF (fun j => cn bt (s + j)) (min (p - s) 9))
      by_cases q : p - s ≤ 9
      · rw [if_pos (show nI (p - s) ≤ (9 : Int32) from nI_le (b := 9) q (by omega)), if_pos q]
        exact ⟨_, rfl, (frB.rf.sI (by decide)).sI (by decide), rfl, rfl, hJ⟩
      · rw [if_neg (show ¬ nI (p - s) ≤ (9 : Int32) from nI_ge (a := 9) (by omega) (by omega)), if_neg q]
        exact ⟨_, rfl, (frB.rf.sI (by decide)).sI (by decide), rfl, rfl, hJ⟩
  | succ n ih =>
    intro f p τ hp hf hs hB hJ
    match f, hf with
    | f + 1, hf =>
      unfold F_mX11_scan_160
      rw [m_see hL hB (by omega), bd_is, m_isD, bd_is, pk_sub hs]
      cases hl : isD bt L p with
      | false =>
        rw [if_pos (show b1 false = 0 from rfl)]
        have er : rE (isD bt L) (n + 1) p = p := by
          show (if isD bt L p then _ else p) = p
          rw [hl]; rfl
        rw [er]
        by_cases q : p - s ≤ 9
        · rw [if_pos (show nI (p - s) ≤ (9 : Int32) from nI_le (b := 9) q (by omega)), if_pos q]
          exact ⟨_, rfl, (frB.rf.sI (by decide)).sI (by decide), rfl, rfl, hJ⟩
        · rw [if_neg (show ¬ nI (p - s) ≤ (9 : Int32) from nI_ge (a := 9) (by omega) (by omega)), if_neg q]
          exact ⟨_, rfl, (frB.rf.sI (by decide)).sI (by decide), rfl, rfl, hJ⟩
      | true =>
        have hc : p < L ∧ 48 ≤ cn bt p ∧ cn bt p ≤ 57 := of_decide_eq_true hl
        have er : rE (isD bt L) (n + 1) p = rE (isD bt L) n (p + 1) := by
          show (if isD bt L p then rE (isD bt L) n (p + 1) else p) = _
          rw [hl]; rfl
        rw [er, if_neg (show ¬ b1 true = 0 by decide), nI_1]
        by_cases q : 9 ≤ p - s
        · rw [if_pos (show (9 : Int32) ≤ nI (p - s) from nI_le (a := 9) q (by omega))]
          have f1 : frB [2, 4, 5] [] τ (sI τ 5 (τ.1 5)) := frB.rf.sI (by decide)
          obtain ⟨τ', a1, a2, a3⟩ := ih f (p + 1) (sI τ 5 (τ.1 5)) (by omega) (by omega) (by omega) (hB.fr f1.1 (by decide) (by decide)) (by
            show τ.1 5 = _
            rw [hJ, show min (p - s) 9 = 9 by omega, show min (p + 1 - s) 9 = 9 by omega])
          exact ⟨τ', a1, f1.tr a2, a3⟩
        · rw [if_neg (show ¬ (9 : Int32) ≤ nI (p - s) from nI_ge (b := 9) (by omega) (by omega)), m_see hL hB (by omega), bd_is, hJ, show cbI bt L p = nI (cn bt p) from if_pos hc.1, nw_nI' hc.2.1]
          have f1 : frB [2, 4, 5] [] τ (sI τ 5 (nI (nvF (fun j => cn bt (s + j)) (min (p - s) 9) * 10 + (cn bt p - 48)))) := frB.rf.sI (by decide)
          obtain ⟨τ', a1, a2, a3⟩ := ih f (p + 1) (sI τ 5 (nI (nvF (fun j => cn bt (s + j)) (min (p - s) 9) * 10 + (cn bt p - 48)))) (by omega) (by omega) (by omega) (hB.fr f1.1 (by decide) (by decide)) (by
            show nI (nvF (fun j => cn bt (s + j)) (min (p - s) 9) * 10 + (cn bt p - 48)) = _
            rw [show min (p + 1 - s) 9 = (p - s) + 1 by omega, show min (p - s) 9 = p - s by omega]
            show _ = nI (nvF (fun j => cn bt (s + j)) (p - s) * 10 + (cn bt (s + (p - s)) - 48))
            rw [show s + (p - s) = p by omega])
          exact ⟨τ', a1, f1.tr a2, a3⟩
theorem m_scan5 {L : Nat} {bt : Nat → Int32} (hL : L ≤ 1200) : ∀ (n f p : Nat) (τ : St), p + n = L → n < f → MB L bt τ → ∃ τ', F_mX11_scan_5 f (nI p) τ = some τ' ∧ frB [2, 3, 4, 5] [] τ τ' ∧ MTk (tokS bt L (rE (isB bt L) n p)) τ' := by
  have last : ∀ (f s : Nat) (τ : St), s ≤ L → MB L bt τ → ¬ (s < L ∧ (cn bt s = 32 ∨ cn bt s = 10)) → ∃ τ', F_mX11_scan_5 (f + 1) (nI s) τ = some τ' ∧ frB [2, 3, 4, 5] [] τ τ' ∧ MTk (tokS bt L s) τ' := by
    intro f s τ hs hB hnb
    have f0 : frB [2, 3, 4, 5] [] τ (sI τ 3 (nI s)) := frB.rf.sI (by decide)
    have hB0 := hB.fr f0.1 (by decide) (by decide)
    unfold F_mX11_scan_5 tokS
    rw [m_see hL hB (by omega), bd_is, if_neg (show ¬ cbI bt L s = 32 from fun q => hnb ⟨((cb_eq (c := 32) (by omega)).mp q).1, Or.inl ((cb_eq (c := 32) (by omega)).mp q).2⟩), m_see hL hB (by omega), bd_is, if_neg (show ¬ cbI bt L s = 10 from fun q => hnb ⟨((cb_eq (c := 10) (by omega)).mp q).1, Or.inr ((cb_eq (c := 10) (by omega)).mp q).2⟩), m_see hL hB0 (by omega), bd_is]
    by_cases e0 : s < L
    · rw [if_neg (fun q => (cb_m1.mp q) e0), if_neg (fun q => q e0), m_isL, bd_is]
      cases hl : isL bt L s with
      | true =>
        rw [if_neg (show ¬ b1 true = 0 by decide), if_pos rfl]
        have f1 : frB [2, 3, 4, 5] [] τ (sJ (sI τ 3 (nI s)) 0 (0 : Int64)) := f0.sJ
        obtain ⟨τ', a1, a2, a3, a4, a5⟩ := m_s75 hL (s := s) (L - s) FU s (sJ (sI τ 3 (nI s)) 0 (0 : Int64)) (by omega) (by rw [FU_is]; omega) (Nat.le_refl _) hB0 (by rw [Nat.sub_self]; rfl)
        refine ⟨τ', a1, f1.tr (a2.wk (by decide) (by decide)), ?_⟩
        have h3 : τ'.1 3 = nI s := (a2.1.1 3 (by decide)).trans rfl
        by_cases e1 : rE (isL bt L) (L - s) s - s ≤ 6
        · rw [if_pos e1] at a4 ⊢
          rw [show min (rE (isL bt L) (L - s) s - s) 6 = rE (isL bt L) (L - s) s - s by omega] at a5
          exact ⟨a3, a4, h3, fun _ => a5, fun q => by cases q⟩
        · rw [if_neg e1] at a4 ⊢
          exact ⟨a3, a4, h3, fun q => (by cases q), fun q => (by cases q)⟩
      | false =>
        rw [if_pos (show b1 false = 0 from rfl), if_neg (show ¬ false = true by decide), m_isD, bd_is]
        cases hd : isD bt L s with
        | true =>
          have hc : s < L ∧ 48 ≤ cn bt s ∧ cn bt s ≤ 57 := of_decide_eq_true hd
          rw [if_neg (show ¬ b1 true = 0 by decide), if_pos rfl, nI_1]
          have hv : cbI bt L s - 48 = nI (cn bt s - 48) := by
            rw [show cbI bt L s = nI (cn bt s) from if_pos e0, show (48 : Int32) = nI 48 from rfl, pk_sub hc.2.1]
          rw [hv]
          have f1 : frB [2, 3, 4, 5] [] τ (sI (sI τ 3 (nI s)) 5 (nI (cn bt s - 48))) := f0.sI (by decide)
          obtain ⟨τ', a1, a2, a3, a4, a5⟩ := m_s160 hL (s := s) (L - (s + 1)) FU (s + 1) (sI (sI τ 3 (nI s)) 5 (nI (cn bt s - 48))) (by omega) (by rw [FU_is]; omega) (by omega) (hB.fr f1.1 (by decide) (by decide)) (by
            rw [show min (s + 1 - s) 9 = 1 by omega]
            show nI (cn bt s - 48) = nI (0 * 10 + (cn bt (s + 0) - 48))
            rw [Nat.zero_mul, Nat.zero_add, Nat.add_zero])
          have er : rE (isD bt L) (L - s) s = rE (isD bt L) (L - (s + 1)) (s + 1) := by
            rw [show L - s = (L - (s + 1)) + 1 by omega]
            show (if isD bt L s then rE (isD bt L) (L - (s + 1)) (s + 1) else s) = _
            rw [hd]; rfl
          rw [← er] at a3 a4 a5
          refine ⟨τ', a1, f1.tr (a2.wk (by decide) (by decide)), ?_⟩
          have h3 : τ'.1 3 = nI s := (a2.1.1 3 (by decide)).trans rfl
          by_cases e1 : rE (isD bt L) (L - s) s - s ≤ 9
          · rw [if_pos e1] at a4 ⊢
            rw [show min (rE (isD bt L) (L - s) s - s) 9 = rE (isD bt L) (L - s) s - s by omega] at a5
            exact ⟨a3, a4, h3, fun q => (by cases q), fun _ => a5⟩
          · rw [if_neg e1] at a4 ⊢
            exact ⟨a3, a4, h3, fun q => (by cases q), fun q => (by cases q)⟩
        | false =>
          rw [if_pos (show b1 false = 0 from rfl), if_neg (show ¬ false = true by decide), nI_1]
          have out : (cn bt s = 58 ∨ cn bt s = 59 ∨ cn bt s = 61 ∨ cn bt s = 45) → ∃ τ', (some (sI (sI (sI τ 3 (nI s)) 2 3) 4 (nI (s + 1))) : Option St) = some τ' ∧ frB [2, 3, 4, 5] [] τ τ' ∧ MTk (if cn bt s = 58 ∨ cn bt s = 59 ∨ cn bt s = 61 ∨ cn bt s = 45 then (cn bt s, s, s + 1, 0) else (3, s, s + 1, 0)) τ' := by
            intro hc
            rw [if_pos hc]
            refine ⟨_, rfl, (f0.sI (by decide)).sI (by decide), rfl, ?_, rfl, fun q => ?_, fun q => ?_⟩
            · show (3 : Int32) = mkd (cn bt s)
              unfold mkd
              rw [if_neg (by omega), if_neg (by omega), if_neg (by omega), if_neg (by omega)]
            · have q' : cn bt s = 1 := q
              omega
            · have q' : cn bt s = 2 := q
              omega
          by_cases c1 : cn bt s = 58
          · rw [if_pos (show cbI bt L s = 58 from (cb_eq (c := 58) (by omega)).mpr ⟨e0, c1⟩)]
            exact out (by omega)
          · rw [if_neg (show ¬ cbI bt L s = 58 from cb_ne (c := 58) (by omega) c1)]
            by_cases c2 : cn bt s = 59
            · rw [if_pos (show cbI bt L s = 59 from (cb_eq (c := 59) (by omega)).mpr ⟨e0, c2⟩)]
              exact out (by omega)
            · rw [if_neg (show ¬ cbI bt L s = 59 from cb_ne (c := 59) (by omega) c2)]
              by_cases c3 : cn bt s = 61
              · rw [if_pos (show cbI bt L s = 61 from (cb_eq (c := 61) (by omega)).mpr ⟨e0, c3⟩)]
                exact out (by omega)
              · rw [if_neg (show ¬ cbI bt L s = 61 from cb_ne (c := 61) (by omega) c3)]
                by_cases c4 : cn bt s = 45
                · rw [if_pos (show cbI bt L s = 45 from (cb_eq (c := 45) (by omega)).mpr ⟨e0, c4⟩)]
                  exact out (by omega)
                · rw [if_neg (show ¬ cbI bt L s = 45 from cb_ne (c := 45) (by omega) c4), if_neg (by omega)]
                  exact ⟨_, rfl, (f0.sI (by decide)).sI (by decide), rfl, rfl, rfl, fun q => (by cases q), fun q => (by cases q)⟩
    · rw [if_pos (cb_m1.mpr e0), if_pos e0]
      exact ⟨_, rfl, (f0.sI (by decide)).sI (by decide), rfl, rfl, rfl, fun q => (by cases q), fun q => (by cases q)⟩
  intro n
  induction n with
  | zero =>
    intro f p τ hp hf hB
    match f, hf with
    | f + 1, _ => exact last f p τ (by omega) hB (fun q => by omega)
  | succ n ih =>
    intro f p τ hp hf hB
    match f, hf with
    | f + 1, hf =>
      unfold rE
      by_cases hb : cn bt p = 32 ∨ cn bt p = 10
      · rw [show isB bt L p = true from decide_eq_true ⟨by omega, hb⟩, if_pos rfl]
        unfold F_mX11_scan_5
        rw [m_see hL hB (by omega), bd_is]
        by_cases c1 : cn bt p = 32
        · rw [if_pos (show cbI bt L p = 32 from (cb_eq (c := 32) (by omega)).mpr ⟨by omega, c1⟩), nI_1]
          exact ih f (p + 1) τ (by omega) (by omega) hB
        · rw [if_neg (show ¬ cbI bt L p = 32 from cb_ne (c := 32) (by omega) c1), m_see hL hB (by omega), bd_is, if_pos (show cbI bt L p = 10 from (cb_eq (c := 10) (by omega)).mpr ⟨by omega, by omega⟩), nI_1]
          exact ih f (p + 1) τ (by omega) (by omega) hB
      · rw [show isB bt L p = false from decide_eq_false (fun q => hb q.2), if_neg (by decide)]
        exact last f p τ (by omega) hB (fun q => hb q.2)
theorem m_scan {L : Nat} {bt : Nat → Int32} (hL : L ≤ 1200) {p : Nat} (hp : p ≤ L) {τ : St} (hB : MB L bt τ) (h4 : τ.1 4 = nI p) : ∃ τ', F_mX11_scan τ = some τ' ∧ frB [2, 3, 4, 5] [] τ τ' ∧ MTk (tokF bt L p) τ' := by
  unfold F_mX11_scan
  rw [h4]
  exact m_scan5 hL (L - p) FU p τ (by omega) (by rw [FU_is]; omega) hB
