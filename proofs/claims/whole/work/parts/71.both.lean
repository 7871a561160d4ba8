/-! both read alike -/
def RP (bt : Nat → Int32) (L : Nat) (T : Tk) (σ τ : St) : Prop := XB L bt σ ∧ MB L bt τ ∧ TO bt L T ∧ XTk T σ ∧ MTk T τ
theorem tk_256 {bt : Nat → Int32} {L : Nat} {T : Tk} (h : TO bt L T) : T.1 < 256 := by rcases h.2.2.2.2.2 with q | q <;> omega
theorem mkd_is {k : Nat} : (mkd k = 4 ↔ k = 0) ∧ (mkd k = 1 ↔ k = 1) ∧ (mkd k = 2 ↔ k = 2) ∧ (mkd k = 3 ↔ 3 < k) := by
  unfold mkd
  by_cases q0 : k = 0
  · rw [if_pos q0, q0]; decide
  · rw [if_neg q0]
    by_cases q1 : k = 1
    · rw [if_pos q1, q1]; decide
    · rw [if_neg q1]
      by_cases q2 : k = 2
      · rw [if_pos q2, q2]; decide
      · rw [if_neg q2]
        by_cases q3 : k = 3
        · rw [if_pos q3, q3]; decide
        · rw [if_neg q3]
          exact ⟨⟨fun z => absurd z (by decide), fun z => absurd z q0⟩, ⟨fun z => absurd z (by decide), fun z => absurd z q1⟩, ⟨fun z => absurd z (by decide), fun z => absurd z q2⟩, ⟨fun _ => by omega, fun _ => rfl⟩⟩
theorem nk_eq {bt : Nat → Int32} {L : Nat} {T : Tk} (h : TO bt L T) {c : Nat} (hc : c < 256) : nI T.1 = nI c ↔ T.1 = c := nI_eq (by have := tk_256 h; omega) (by omega)
theorem b_step {bt : Nat → Int32} {L : Nat} (hL : L ≤ 1200) {T : Tk} {σ τ : St} (h : RP bt L T σ τ) : ∃ σ' τ', F_xX9_advance σ = some σ' ∧ F_mX11_scan τ = some τ' ∧ fr1 [1, 2, 3, 4] [] σ σ' ∧ frB [2, 3, 4, 5] [] τ τ' ∧ RP bt L (tokF bt L T.2.2.1) σ' τ' := by
  obtain ⟨h1, h2, h3, h4, h5⟩ := h
  obtain ⟨σ', a1, a2, a3⟩ := x_advance hL h3.2.1 h1 h4.1
  obtain ⟨τ', c1, c2, c3⟩ := m_scan hL h3.2.1 h2 h5.1
  exact ⟨σ', τ', a1, c1, a2, c2, h1.fr a2 (by decide) (by decide), h2.fr c2.1 (by decide) (by decide), tokF_ok h3.2.1, a3, c3⟩
def xF (k : Int32) (s : Nat) (σ : St) : St := sI (sI σ 5 k) 6 (nI s)
def mF (k : Int32) (s : Nat) (τ : St) : St := sI (sI τ 6 k) 7 (nI s)
theorem x_fail {T : Tk} {σ : St} (h : XTk T σ) (k : Int32) : (bd (F_xX9_fail k (σ.1 3) σ) fun r3 σ_r3 => (if nb r3 = true then (some (r3, σ_r3)) else none)) = some (0, xF k T.2.1 σ) := by
  unfold F_xX9_fail
  rw [bd_is, if_pos (by decide), h.2.2.1]
  rfl
theorem m_fails {T : Tk} {τ : St} (h : MTk T τ) (k : Int32) : F_mX11_fails k τ = some (0, mF k T.2.1 τ) := by
  unfold F_mX11_fails
  rw [h.2.2.1]
  rfl
theorem m_fail {T : Tk} {τ : St} (h : MTk T τ) (k : Int32) : (bd (F_mX11_fails k τ) fun r3 σ_r3 => (if nb r3 = true then (some (r3, σ_r3)) else none)) = some (0, mF k T.2.1 τ) := by
  rw [m_fails h, bd_is, if_pos (by decide)]
theorem b_sign {bt : Nat → Int32} {L : Nat} (hL : L ≤ 1200) {T : Tk} {σ τ : St} (h : RP bt L T σ τ) {c : Nat} (hc : c = 58 ∨ c = 59) :
    (T.1 = c ∧ ∃ σ' τ', F_xX9_pass (nI c) σ = some (1, σ') ∧ F_mX11_readSign (nI c) τ = some (1, τ') ∧ fr1 [1, 2, 3, 4] [] σ σ' ∧ frB [2, 3, 4, 5] [] τ τ' ∧ RP bt L (tokF bt L T.2.2.1) σ' τ') ∨
    (T.1 ≠ c ∧ F_xX9_pass (nI c) σ = some (0, xF 1 T.2.1 σ) ∧ F_mX11_readSign (nI c) τ = some (0, mF 1 T.2.1 τ)) := by
  obtain ⟨σ', τ', a1, a2, a3, a4, a5⟩ := b_step hL h
  obtain ⟨h1, h2, h3, h4, h5⟩ := h
  have hsl : T.2.1 ≤ 1200 := by have := h3.1; have := h3.2.1; omega
  by_cases e : T.1 = c
  · left
    refine ⟨e, σ', τ', ?_, ?_, a3, a4, a5⟩
    · unfold F_xX9_pass
      rw [h4.2.1, if_pos (by rw [e]), a1, bv_is]
    · have hcn : cn bt T.2.1 = c := by rcases h3.2.2.2.2.2 with q | q <;> omega
      have hs := (h3.2.2.1 (by omega)).1
      unfold F_mX11_readSign
      rw [h5.2.1, if_pos (mkd_is.2.2.2.mpr (by omega)), h5.2.2.1, m_see hL h2 (by omega), bd_is, if_pos ((cb_eq (by omega)).mpr ⟨hs, hcn⟩), a2, bv_is]
  · right
    refine ⟨e, ?_, ?_⟩
    · unfold F_xX9_pass
      rw [h4.2.1, if_neg (fun q => e ((nk_eq h3 (by omega)).mp q))]
      exact x_fail h4 1
    · unfold F_mX11_readSign
      rw [h5.2.1]
      by_cases q : 3 < T.1
      · rw [if_pos (mkd_is.2.2.2.mpr q), h5.2.2.1, m_see hL h2 (by omega), bd_is, if_neg]
        · exact m_fail h5 1
        · intro z
          have := ((cb_eq (by omega)).mp z).2
          rcases h3.2.2.2.2.2 with q2 | q2
          · omega
          · exact e (q2.2.symm.trans this)
      · rw [if_neg (fun z => q (mkd_is.2.2.2.mp z))]
        exact m_fail h5 1
