/-! both read a drum -/
theorem b_loop {bt : Nat → Int32} {L : Nat} (hL : L ≤ 1200) {σ0 τ0 : St} {w : Nat} : ∀ (j m fx n : Nat) (T : Tk) (f g : Nat → Nat) (σ τ : St), n + j = 4 → 1 ≤ n → j < fx → j < m → RP bt L T σ τ → DD w n f g σ τ → FX σ0 σ → FM τ0 τ →
    DFail σ0 τ0 (F_xX2_read_33 fx (nI n) σ) (if T.1 = 0 then some (1, τ) else F_mX11_readDrum_81 m τ) ∨ ∃ (t : Nat) (f' g' : Nat → Nat) (σ' τ' : St), F_xX2_read_33 fx (nI n) σ = some (1, σ') ∧ (if T.1 = 0 then some (1, τ) else F_mX11_readDrum_81 m τ) = some (1, τ') ∧ DD w t f' g' σ' τ' ∧ 1 ≤ t ∧ t ≤ 4 ∧ FX σ0 σ' ∧ FM τ0 τ' := by
  intro j
  induction j with
  | zero =>
    intro m fx n T f g σ τ hn h1 hfx hm h hD hX hM
    match fx, hfx, m, hm with
    | fx + 1, _, m + 1, _ =>
      unfold F_xX2_read_33
      rw [if_neg (show ¬ (4 : Int32) < nI n from nI_nlt (a := 4) (by omega) (by omega)), h.2.2.2.1.2.1]
      by_cases e : T.1 = 0
      · right
        rw [if_pos (by rw [e]; rfl), if_pos e]
        exact ⟨n, f, g, σ, τ, rfl, rfl, hD, h1, by omega, hX, hM⟩
      · left
        rw [if_neg (show ¬ nI T.1 = 0 from fun q => e ((nk_eq h.2.2.1 (c := 0) (by omega)).mp q)), if_neg e]
        rcases b_track hL h hD (by omega) hX hM m with ⟨k, s, σ', τ', a1, a2, a3⟩ | ⟨q, -⟩
        · exact ⟨k, s, σ', τ', by rw [a1, bd_is, if_pos rfl], a2, a3⟩
        · omega
  | succ j ih =>
    intro m fx n T f g σ τ hn h1 hfx hm h hD hX hM
    match fx, hfx, m, hm with
    | fx + 1, hfx, m + 1, hm =>
      unfold F_xX2_read_33
      rw [if_neg (show ¬ (4 : Int32) < nI n from nI_nlt (a := 4) (by omega) (by omega)), h.2.2.2.1.2.1]
      by_cases e : T.1 = 0
      · right
        rw [if_pos (by rw [e]; rfl), if_pos e]
        exact ⟨n, f, g, σ, τ, rfl, rfl, hD, h1, by omega, hX, hM⟩
      · rw [if_neg (show ¬ nI T.1 = 0 from fun q => e ((nk_eq h.2.2.1 (c := 0) (by omega)).mp q)), if_neg e]
        rcases b_track hL h hD (by omega) hX hM m with ⟨k, s, σ', τ', a1, a2, a3⟩ | ⟨q, f', g', T', σ', τ', a1, a2, a3, a4, a5, a6⟩
        · left
          exact ⟨k, s, σ', τ', by rw [a1, bd_is, if_pos rfl], a2, a3⟩
        · rw [a1, a2, bd_is, if_neg (by decide), nI_1]
          exact ih m fx (n + 1) T' f' g' σ' τ' (by omega) (by omega) (by omega) (by omega) a3 a4 a5 a6
theorem b_begin {bt : Nat → Int32} {L : Nat} (hL : L ≤ 1200) {fk fp : Int32} {σ τ : St} (hX : XT L bt fk fp σ) (hM : MT L bt fk fp τ) : ∃ σ1 τ1, F_xX9_rewind σ = some σ1 ∧ F_mX11_take τ = some τ1 ∧ RP bt L (tokF bt L 0) σ1 τ1 ∧ fr1 [1, 2, 3, 4, 5, 6] [] σ σ1 ∧ frB [0, 1, 2, 3, 4, 5, 6, 7] [] τ τ1 ∧ σ1.1 5 = 0 ∧ σ1.1 6 = -1 ∧ τ1.1 6 = 0 ∧ τ1.1 7 = -1 ∧ τ1.1 0 = 0 := by
  have f1 : fr1 [1, 2, 3, 4, 5, 6] [] σ (sI (sI (sI σ 1 0) 5 0) 6 (-1)) := ((fr1.rf.sI (by decide)).sI (by decide)).sI (by decide)
  have hB1 : XB L bt (sI (sI (sI σ 1 0) 5 0) 6 (-1)) := ⟨hX.1, hX.2.1⟩
  obtain ⟨σ1, a1, a2, a3⟩ := x_advance hL (Nat.zero_le _) hB1 rfl
  have g1 : frB [0, 1, 2, 3, 4, 5, 6, 7] [] τ (sI (sI (sI τ 0 0) 1 (τ.1 0)) 4 0) := ((frB.rf.sI (by decide)).sI (by decide)).sI (by decide)
  have hB2 : MB L bt (sI (sI (sI τ 0 0) 1 (τ.1 0)) 4 0) := ⟨hM.1, hM.2.1⟩
  obtain ⟨τ1, c1, c2, c3⟩ := m_scan hL (Nat.zero_le _) hB2 rfl
  have hf2 : frB [0, 1, 2, 3, 4, 5, 6, 7] [] τ (sI (sI τ1 6 0) 7 (-1)) := ((g1.tr (c2.wk (by decide) (by decide))).sI (by decide)).sI (by decide)
  refine ⟨σ1, sI (sI τ1 6 0) 7 (-1), ?_, ?_, ⟨hB1.fr a2 (by decide) (by decide), ?_, tokF_ok (Nat.zero_le _), a3, c3⟩, f1.tr (a2.wk (by decide) (by decide)), hf2, a2.1 5 (by decide), a2.1 6 (by decide), rfl, rfl, ?_⟩
  · unfold F_xX9_rewind
    rw [a1, bv_is]
  · unfold F_mX11_take
    rw [c1, bv_is]
  · have := hB2.fr c2.1 (by decide) (by decide)
    exact this
  · exact (c2.1.1 0 (by decide)).trans rfl
theorem ky_0 : KC 3 ≠ KC 0 ∧ KC 1 ≠ KC 0 ∧ KC 2 ≠ KC 0 ∧ KC 14 ≠ KC 0 := by decide +kernel
theorem kyD_0 {T : Tk} : (if T.1 = 1 then kyD T.2.2.2 else -1) = 0 ↔ iw T 0 = true := by
  unfold kyD iw
  by_cases e : T.1 = 1
  · rw [if_pos e]
    by_cases q : T.2.2.2 = KC 0
    · rw [if_pos q, decide_eq_true ⟨e, q⟩]
      exact ⟨fun _ => rfl, fun _ => rfl⟩
    · rw [if_neg q, decide_eq_false (fun z => q z.2)]
      constructor
      · intro z
        revert z
        split
        · decide
        · split
          · decide
          · split
            · decide
            · split <;> decide
      · intro z; cases z
  · rw [if_neg e, decide_eq_false (fun z => e z.1)]
    decide
theorem b_read {bt : Nat → Int32} {L : Nat} (hL : L ≤ 1200) {T : Tk} {σ τ σ0 τ0 : St} (h : RP bt L T σ τ) (h10 : σ.1 10 = 0) (hX : FX σ0 σ) (hM : FM τ0 τ) :
    DFail σ0 τ0 (bd (F_xX2_readWords σ) fun r6 σ_r6 => (if r6 = 0 then (some (0, σ_r6)) else (bd (F_xX2_readTrack σ_r6) fun r8 σ_r8 => (if r8 = 0 then (some (0, σ_r8)) else (F_xX2_read_33 FU 1 σ_r8))))) (F_mX11_readDrum τ) ∨ ∃ (w t : Nat) (f' g' : Nat → Nat) (σ' τ' : St), (bd (F_xX2_readWords σ) fun r6 σ_r6 => (if r6 = 0 then (some (0, σ_r6)) else (bd (F_xX2_readTrack σ_r6) fun r8 σ_r8 => (if r8 = 0 then (some (0, σ_r8)) else (F_xX2_read_33 FU 1 σ_r8))))) = some (1, σ') ∧ F_mX11_readDrum τ = some (1, τ') ∧ DD w t f' g' σ' τ' ∧ 1 ≤ t ∧ t ≤ 4 ∧ FX σ0 σ' ∧ FM τ0 τ' := by
  have hT := h.2.2.1
  unfold F_xX2_readWords F_mX11_readDrum
  rw [x_isWord hT (i := 0) (by omega) h.2.2.2.1, bd_is, m_key15 hL hT h.2.1 h.2.2.2.2, bd_is]
  cases hw : iw T 0 with
  | false =>
    left
    rw [if_pos (show b1 false = 0 from rfl), if_neg (fun z => by rw [kyD_0, hw] at z; cases z)]
    refine DFail.mk hX hM 1 T.2.1 ?_ (m_fail h.2.2.2.2 1)
    rw [x_fail h.2.2.2.1 1, bd_is, if_pos rfl]
  | true =>
    obtain ⟨σ1, τ1, a1, a2, a3, a4, a5⟩ := b_step hL h
    have hX1 : FX σ0 σ1 := fr1.tr hX (a3.wk (by decide) (by decide))
    have hM1 : FM τ0 τ1 := FM.st hM a4.1 (by decide)
    rw [if_neg (show ¬ b1 true = 0 by decide), if_pos (kyD_0.mpr hw), a1, bv_is, a2, bv_is]
    obtain ⟨T1, hT1⟩ : ∃ T1, T1 = tokF bt L T.2.2.1 := ⟨_, rfl⟩
    rw [← hT1] at a5
    have hTO1 := a5.2.2.1
    rw [a5.2.2.2.2.2.1]
    rcases x_within hTO1 a5.2.2.2.1 (a := 8) (b := 32) (by omega) (by omega) with ⟨q1, q2⟩ | ⟨q1, q2, q3⟩ | ⟨q1, q2, q3, q4⟩
    · left
      refine DFail.mk hX1 hM1 1 T1.2.1 ?_ ?_
      · rw [show F_xX2_numberIsWithin 8 32 σ1 = _ from q2, bd_is, if_pos rfl, bd_is, if_pos rfl]
      · rw [if_neg (fun z => q1 (mkd_is.2.2.1.mp z))]
        exact m_fail a5.2.2.2.2 1
    · left
      have hv := hTO1.2.2.2.2.1 q1
      refine DFail.mk hX1 hM1 2 T1.2.1 ?_ ?_
      · rw [show F_xX2_numberIsWithin 8 32 σ1 = _ from q3, bd_is, if_pos rfl, bd_is, if_pos rfl]
      · rw [if_pos (mkd_is.2.2.1.mpr q1), a5.2.2.2.2.2.2.2.2 q1, m_in, bd_is]
        have h0 : (if nI T1.2.2.2 < 8 then (0 : Int32) else if (32 : Int32) < nI T1.2.2.2 then 0 else 1) = 0 := by
          by_cases z : T1.2.2.2 < 8
          · rw [if_pos (show nI T1.2.2.2 < 8 from nI_lt (b := 8) z (by omega))]
          · rw [if_neg (show ¬ nI T1.2.2.2 < 8 from nI_nlt (b := 8) (by omega) (by omega)), if_pos (show (32 : Int32) < nI T1.2.2.2 from nI_lt (a := 32) (by omega) (by omega))]
        rw [if_pos h0]
        exact m_fail a5.2.2.2.2 2
    · have e4x := a5.2.2.2.1.2.2.2 (Or.inr q1)
      have e5m := a5.2.2.2.2.2.2.2.2 q1
      have h1 : ¬ (if nI T1.2.2.2 < 8 then (0 : Int32) else if (32 : Int32) < nI T1.2.2.2 then 0 else 1) = 0 := by
        rw [if_neg (show ¬ nI T1.2.2.2 < 8 from nI_nlt (b := 8) (by omega) (by omega)), if_neg (show ¬ (32 : Int32) < nI T1.2.2.2 from nI_nlt (a := 32) (by omega) (by omega))]
        decide
      rw [show F_xX2_numberIsWithin 8 32 σ1 = _ from q4, bd_is, if_neg (show ¬ (1 : Int32) = 0 by decide), e4x, if_pos (mkd_is.2.2.1.mpr q1), e5m, m_in, bd_is, if_neg h1, e5m]
      have hR2 : RP bt L T1 (sI σ1 9 (nI T1.2.2.2)) (sI τ1 10 (nI T1.2.2.2)) := ⟨a5.1, a5.2.1, a5.2.2.1, a5.2.2.2.1, a5.2.2.2.2⟩
      obtain ⟨σ2, τ2, b1', b2, b3, b4, b5⟩ := b_step hL hR2
      have hX2 : FX σ0 σ2 := fr1.tr (fr1.sI hX1 (by decide)) (b3.wk (by decide) (by decide))
      have hM2 : FM τ0 τ2 := FM.st (τ := sI τ1 10 (nI T1.2.2.2)) ⟨fr1.sI hM1.1 (by decide), hM1.2⟩ b4.1 (by decide)
      rw [b1', bv_is, b2, bv_is]
      rcases b_sign hL b5 (c := 59) (Or.inr rfl) with ⟨e, σ3, τ3, c1, c2, c3, c4, c5⟩ | ⟨e, c1, c2⟩
      · rw [show F_xX9_pass 59 σ2 = _ from c1, bd_is, if_pos (by decide), bd_is, if_neg (show ¬ (1 : Int32) = 0 by decide), show F_mX11_readSign 59 τ2 = _ from c2, bd_is, if_neg (show ¬ (1 : Int32) = 0 by decide)]
        have hX3 : FX σ0 σ3 := fr1.tr hX2 (c3.wk (by decide) (by decide))
        have hM3 : FM τ0 (sI τ3 11 0) := ⟨fr1.sI (FM.st hM2 c4.1 (by decide)).1 (by decide), (FM.st hM2 c4.1 (by decide)).2⟩
        have hR3 : RP bt L (tokF bt L (tokF bt L T1.2.2.1).2.2.1) σ3 (sI τ3 11 0) := ⟨c5.1, c5.2.1, c5.2.2.1, c5.2.2.2.1, c5.2.2.2.2⟩
        have hD3 : DD T1.2.2.2 0 (fun _ => 0) (fun _ => 0) σ3 (sI τ3 11 0) := by
          refine ⟨(c3.1 9 (by decide)).trans ((b3.1 9 (by decide)).trans rfl), (c4.1.1 10 (by decide)).trans ((b4.1.1 10 (by decide)).trans rfl), ?_, rfl, by omega, by omega, fun k hk => by cases hk⟩
          exact (c3.1 10 (by decide)).trans ((b3.1 10 (by decide)).trans ((a3.1 10 (by decide)).trans h10))
        rw [FU_is]
        rcases b_track hL hR3 hD3 (by omega) hX3 hM3 4095 with ⟨k, s, σ', τ', d1, d2, d3⟩ | ⟨q, f', g', T', σ', τ', d1, d2, d3, d4, d5, d6⟩
        · left
          exact ⟨k, s, σ', τ', by rw [d1, bd_is, if_pos rfl], d2, d3⟩
        · rw [d1, d2, bd_is, if_neg (show ¬ (1 : Int32) = 0 by decide)]
          rcases b_loop hL 3 4095 4096 1 T' f' g' σ' τ' rfl (by omega) (by omega) (by omega) d3 d4 d5 d6 with z | ⟨t, f'', g'', σ'', τ'', z1, z2, z3⟩
          · exact Or.inl z
          · exact Or.inr ⟨T1.2.2.2, t, f'', g'', σ'', τ'', z1, z2, z3⟩
      · left
        refine DFail.mk hX2 hM2 1 (tokF bt L T1.2.2.1).2.1 ?_ ?_
        · rw [show F_xX9_pass 59 σ2 = _ from c1, bd_is, if_pos (by decide), bd_is, if_pos rfl]
        · rw [show F_mX11_readSign 59 τ2 = _ from c2, bd_is, if_pos rfl]
