/-! frames of the whole; time -/
theorem AX.fr {q : Ab} {σ σ' : St} {S Q : List Nat} (h : AX q σ) (hf : fr1 S Q σ σ') (hS : ∀ k ∈ S, k ∉ [0, 5, 6, 7, 8, 11, 12, 17, 23, 24, 25, 26, 27, 28, 29, 30, 32]) (hQ : ∀ a ∈ Q, a ∉ [2, 4, 5, 11, 26, 27, 28, 29, 30, 32, 33, 34, 35, 36, 42, 43, 44, 45, 46, 47, 48, 49, 50, 57, 58, 59]) : AX q σ' := by
  have i : ∀ k, k ∈ [0, 5, 6, 7, 8, 11, 12, 17, 23, 24, 25, 26, 27, 28, 29, 30, 32] → σ'.1 k = σ.1 k := fun k hk => hf.1 k (fun z => hS k z hk)
  have a : ∀ k, k ∈ [2, 4, 5, 11, 26, 27, 28, 29, 30, 32, 33, 34, 35, 36, 42, 43, 44, 45, 46, 47, 48, 49, 50, 57, 58, 59] → σ'.2.1 k = σ.2.1 k := fun k hk => hf.2 k (fun z => hQ k z hk)
  unfold AX XT XD XP XL XK XR XJ at h ⊢
  rw [i 0 (by decide), i 5 (by decide), i 6 (by decide), i 7 (by decide), i 8 (by decide), i 11 (by decide), i 12 (by decide), i 17 (by decide), i 23 (by decide), i 24 (by decide), i 25 (by decide), i 26 (by decide), i 27 (by decide), i 28 (by decide), i 29 (by decide), i 30 (by decide), i 32 (by decide), a 2 (by decide), a 4 (by decide), a 5 (by decide), a 11 (by decide), a 26 (by decide), a 27 (by decide), a 28 (by decide), a 29 (by decide), a 30 (by decide), a 32 (by decide), a 33 (by decide), a 34 (by decide), a 35 (by decide), a 36 (by decide), a 42 (by decide), a 43 (by decide), a 44 (by decide), a 45 (by decide), a 46 (by decide), a 47 (by decide), a 48 (by decide), a 49 (by decide), a 50 (by decide), a 57 (by decide), a 58 (by decide), a 59 (by decide)]
  exact h
theorem AM.fr {q : Ab} {τ τ' : St} {S Q : List Nat} (h : AM q τ) (hf : fr1 S Q τ τ') (hS : ∀ k ∈ S, k ∉ [0, 6, 7, 8, 9, 12, 13, 23, 24, 25]) (hQ : ∀ a ∈ Q, a ∉ [1, 2, 3, 4, 6, 7, 21, 22, 23, 27, 28, 31, 32]) : AM q τ' := by
  have i : ∀ k, k ∈ [0, 6, 7, 8, 9, 12, 13, 23, 24, 25] → τ'.1 k = τ.1 k := fun k hk => hf.1 k (fun z => hS k z hk)
  have a : ∀ k, k ∈ [1, 2, 3, 4, 6, 7, 21, 22, 23, 27, 28, 31, 32] → τ'.2.1 k = τ.2.1 k := fun k hk => hf.2 k (fun z => hQ k z hk)
  unfold AM MT MD MP ML MK MR MJ at h ⊢
  rw [i 0 (by decide), i 6 (by decide), i 7 (by decide), i 8 (by decide), i 9 (by decide), i 12 (by decide), i 13 (by decide), i 23 (by decide), i 24 (by decide), i 25 (by decide), a 1 (by decide), a 2 (by decide), a 3 (by decide), a 4 (by decide), a 6 (by decide), a 7 (by decide), a 21 (by decide), a 22 (by decide), a 23 (by decide), a 27 (by decide), a 28 (by decide), a 31 (by decide), a 32 (by decide)]
  exact h
theorem XS_of {q : Ab} {σ : St} (h : AX q σ) : XS (q.1 1) (q.2.1 0) (q.1 3) (q.2.1 2) σ := (XL_iff.mp h.2.2.2.1).2.1
theorem en_lt {q : Ab} (hq : OKq q) (h : ¬ q.1 3 = 0) : q.1 4 < q.1 3 := by
  rcases hq.2.2.1.2.2 with h1 | h1
  · exact h1
  · exact absurd h1.1 h
theorem api_time : API F_xX10_time F_mX11_time := by
  intro q hq
  have hd := hq.2.1
  have hc : q.1 3 ≤ 40 := hq.2.2.1.1
  by_cases h0 : q.1 3 = 0
  · refine ⟨-4, q, hq, fun σ h => ⟨σ, ?_, h⟩, fun τ h => ⟨τ, ?_, h⟩⟩
    · unfold F_xX10_time
      rw [h.2.2.1.1, h0, if_pos nI_0]
    · unfold F_mX11_time
      rw [h.2.2.1.1, h0, if_pos nI_0]
  · have hen := en_lt hq h0
    refine ⟨nI (tmS (q.1 1) (q.2.1 0) (q.1 3) (q.1 4) (q.2.2.2 1) (q.2.1 2)), q, hq, fun σ h => ?_, fun τ h => ?_⟩
    · obtain ⟨σ', a1, a2, a3, -, -, a6⟩ := x_follow hc h.2.2.1 hen
      have hX := h.fr a2 (by decide) (by decide)
      refine ⟨σ', ?_, hX⟩
      unfold F_xX10_time
      rw [h.2.2.1.1, if_neg (nI_ne0 (by omega) (by omega)), a1, bv_is, x_timeOf hd hc hen hq.2.2.2.1.1 (XS_of hX) a3 a6, bd_is]
    · obtain ⟨τ', a1, a2⟩ := m_timeNow hd hq.2.2.2.1.1 hc hen h.2.1 h.2.2.1 h.2.2.2.1.1
      refine ⟨τ', ?_, h.fr a2 (by decide) (by decide)⟩
      unfold F_mX11_time
      rw [h.2.2.1.1, if_neg (nI_ne0 (by omega) (by omega)), a1, bd_is]
