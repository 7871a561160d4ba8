/-! both read a program -/
theorem AgM.b8 {n m : Nat} {τ0 τ : St} (h : AgM n m τ0 τ) (v : Int64) : AgM n m τ0 (sB τ 8 (vp_updL (τ.2.2.2 8) n v)) := by
  refine ⟨h.1, h.2.1, fun l hl => ?_, fun j hj => ?_⟩
  · rw [rB_B, if_pos rfl, uL_is, if_neg (by omega)]; exact h.2.2.1 l hl
  · rw [rB_B, if_neg (by decide)]; exact h.2.2.2 j hj
theorem l_line {bt : Nat → Int32} {L : Nat} (hL : L ≤ 1200) {T : Tk} {σ τ σ0 τ0 : St} (h : RP bt L T σ τ) {D : Nat → Ln} {n : Nat} (hP : PR D n σ τ) (hx14 : σ.1 14 = nI n) (hm14 : τ.1 14 = nI n) (hX : GX σ0 σ) (hM : GM τ0 τ) :
    PFail σ0 τ0 (F_xX6_readLine σ) (F_mX11_readLine τ) ∨ (n < 40 ∧ PSucc bt L D n σ0 τ0 (F_xX6_readLine σ) (F_mX11_readLine τ)) := by
  have hT := h.2.2.1
  have hn40 := hP.2.1
  unfold F_xX6_readLine F_mX11_readLine
  rw [h.2.2.2.1.2.1, h.2.2.2.2.2.1]
  by_cases e : T.1 = 1
  · have hv := hT.2.2.2.1 e
    have e4 := h.2.2.2.1.2.2.2 (Or.inl e)
    have eJ := h.2.2.2.2.2.2.2.1 e
    rw [if_pos (by rw [e]; rfl), if_pos (mkd_is.2.1.mpr e), e4, eJ, hm14, x_find (D := D) hn40 hv.2.2.2.2 hx14 (fun l hl => ⟨(hP.2.2 l hl).1.2.1, (hP.2.2 l hl).2.1.1⟩), bd_is, m_find (D := D) hn40 hv.2.2.2.2 (fun l hl => ⟨(hP.2.2 l hl).1.2.1, (hP.2.2 l hl).2.2.1⟩), bd_is]
    by_cases ef : fdX D T.2.2.2 n 0 = -1
    · rw [if_pos ef, if_pos ef, hx14, hm14, if_neg (nI_pos (by omega))]
      by_cases e40 : n = 40
      · left
        rw [if_neg (show ¬ nI n < 40 from nI_nlt (b := 40) (by omega) (by omega)), if_pos (by rw [e40]; rfl)]
        unfold F_xX6_readLine_76
        exact PFail.mk hX hM 4 T.2.1 (x_fail h.2.2.2.1 4) (m_fail h.2.2.2.2 4)
      · have hn : n < 40 := by omega
        rw [if_pos (show nI n < 40 from nI_lt (b := 40) (by omega) (by omega)), if_neg (show ¬ nI n = 40 from fun q => e40 ((nI_eq (b := 40) (by omega) (by omega)).mp q)), if_pos (ib_nI (by omega) (by omega)), if_pos (ib_nI (by omega) (by omega)), nI_clamp (by omega), nI_1, e4, eJ]
        obtain ⟨σ1, hσ1⟩ : ∃ σ1, σ1 = sA (sI σ 14 (nI (n + 1))) 19 (upd (σ.2.1 19) n (nI T.2.2.2)) := ⟨_, rfl⟩
        obtain ⟨τ1, hτ1⟩ : ∃ τ1, τ1 = sB (sA (sA τ 10 (upd (τ.2.1 10) n (-1))) 11 (upd (τ.2.1 11) n (-1))) 8 (vp_updL (τ.2.2.2 8) n (nL T.2.2.2)) := ⟨_, rfl⟩
        have ex1 : (sA (sI σ 14 (nI (n + 1))) 19 (upd (σ.2.1 19) n (nI T.2.2.2))) = σ1 := hσ1.symm
        have ey1 : (sB (sA (sA τ 10 (upd (τ.2.1 10) n (-1))) 11 (upd (τ.2.1 11) n (-1))) 8 (vp_updL (τ.2.2.2 8) n (nL T.2.2.2))) = τ1 := hτ1.symm
        rw [ex1, ey1]
        have hR1 : RP bt L T σ1 τ1 := by rw [hσ1, hτ1]; exact ⟨h.1, h.2.1, h.2.2.1, h.2.2.2.1, h.2.2.2.2⟩
        have hX1 : GX σ0 σ1 := by rw [hσ1]; exact fr1.sA (fr1.sI hX (by decide)) (by decide)
        have hM1 : GM τ0 τ1 := by
          have : GM τ0 (sA (sA τ 10 (upd (τ.2.1 10) n (-1))) 11 (upd (τ.2.1 11) n (-1))) := fr1.sA (fr1.sA hM (by decide)) (by decide)
          rw [hτ1]
          exact ⟨this.1, this.2⟩
        have hAx1 : AgX n σ σ1 := by
          rw [hσ1]
          exact AgX.up (σ := sI σ 14 (nI (n + 1))) (fun a l hl => rfl) 19 _
        have hAm1 : AgM n (ncF D n) τ τ1 := by
          rw [hτ1]
          exact ((AgM.rf.up (k := 10) (by decide) (-1)).up (k := 11) (by decide) (-1)).b8 _
        have x19 : σ1.2.1 19 n = nI T.2.2.2 := by
          rw [hσ1]
          show upd (σ.2.1 19) n _ n = _
          rw [u_is, if_pos rfl]
        have y8 : τ1.2.2.2 8 n = nL T.2.2.2 := by
          rw [hτ1, rB_B, if_pos rfl, uL_is, if_pos rfl]
        have y10 : τ1.2.1 10 n = -1 := by
          rw [hτ1]
          show upd (τ.2.1 10) n (-1) n = _
          rw [u_is, if_pos rfl]
        have y11 : τ1.2.1 11 n = -1 := by
          rw [hτ1]
          show upd (τ.2.1 11) n (-1) n = _
          rw [u_is, if_pos rfl]
        obtain ⟨σ2, τ2, a1, a2, a3, a4, a5⟩ := b_step hL hR1
        obtain ⟨T1, hT1⟩ : ∃ T1, T1 = tokF bt L T.2.2.1 := ⟨_, rfl⟩
        rw [← hT1] at a5
        have hTO1 := a5.2.2.1
        have hse : T1.2.1 ≤ 1200 := by have := hTO1.1; have := hTO1.2.1; omega
        rw [a1, bv_is, a2, bv_is, a5.2.2.2.1.2.1, a5.2.2.2.2.2.1, a5.2.2.2.2.2.2.1]
        have hX2 : GX σ0 σ2 := fr1.tr hX1 (a3.wk (by decide) (by decide))
        have hM2 : GM τ0 τ2 := fr1.tr hM1 (a4.1.wk (by decide) (by decide))
        have z14 : σ2.1 14 = nI (n + 1) := (a3.1 14 (by decide)).trans (by rw [hσ1]; rfl)
        have w14 : τ2.1 14 = nI n := (a4.1.1 14 (by decide)).trans (by rw [hτ1]; exact hm14)
        have w15 : τ2.1 15 = nI (ncF D n) := (a4.1.1 15 (by decide)).trans (by rw [hτ1]; exact hP.1)
        have hcd : 0 < T.2.2.2 ∧ T.2.2.2 < 2 ^ 30 := ⟨hv.2.2.2.1, hv.2.2.2.2⟩
        have u19 : σ2.2.1 19 n = nI T.2.2.2 := by rw [a3.2 19 (List.not_mem_nil)]; exact x19
        have v8 : τ2.2.2.2 8 n = nL T.2.2.2 := by rw [a4.2]; exact y8
        by_cases e61 : T1.1 = 61
        · have hcn : cn bt T1.2.1 = 61 := by rcases hTO1.2.2.2.2.2 with q | q <;> omega
          have hsl := (hTO1.2.2.1 (by omega)).1
          rw [if_pos (by rw [e61]; rfl), if_pos (mkd_is.2.2.2.mpr (by omega)), m_see hL a5.2.1 (by omega), bd_is, if_pos (show cbI bt L T1.2.1 = 61 from (cb_eq (c := 61) (by omega)).mpr ⟨hsl, hcn⟩)]
          rcases l_number hL a5 hP hn (hAx1.st a3) (hAm1.st a4.1 a4.2) hcd u19 v8 w15 z14 w14 hX2 hM2 rfl with q | q
          · exact Or.inl q.wrap
          · exact Or.inr ⟨hn, q.wrap⟩
        · have hm195 : (if mkd T1.1 = 3 then (bd (F_mX11_see (nI T1.2.1) τ2) fun r37 σ_r37 => (if r37 = 61 then (bv (F_mX11_scan σ_r37) fun σ_r39 => (if (σ_r39.1 2) = 3 then (bd (F_mX11_see (σ_r39.1 3) σ_r39) fun r41 σ_r41 => (if r41 = 45 then (F_mX11_readLine_135 (nI n) 1 σ_r41) else (F_mX11_readLine_135 (nI n) 0 σ_r41))) else (F_mX11_readLine_135 (nI n) 0 σ_r39))) else (F_mX11_readLine_195 (nI n) σ_r37))) else (F_mX11_readLine_195 (nI n) τ2)) = F_mX11_readLine_195 (nI n) τ2 := by
            by_cases q : 3 < T1.1
            · rw [if_pos (mkd_is.2.2.2.mpr q), m_see hL a5.2.1 (by omega), bd_is, if_neg]
              intro z
              have := ((cb_eq (c := 61) (by omega)).mp z).2
              rcases hTO1.2.2.2.2.2 with q2 | q2
              · omega
              · exact e61 (q2.2.symm.trans this)
            · rw [if_neg (fun z => q (mkd_is.2.2.2.mp z))]
          rw [hm195, if_neg (show ¬ nI T1.1 = 61 from fun q => e61 ((nk_eq hTO1 (c := 61) (by omega)).mp q))]
          unfold F_mX11_readLine_195
          rcases b_sign hL a5 (c := 58) (Or.inl rfl) with ⟨q, σ3, τ3, c1, c2, c3, c4, c5⟩ | ⟨q, c1, c2⟩
          · rw [show F_xX9_pass 58 σ2 = _ from c1, bd_is, if_neg (show ¬ (1 : Int32) = 0 by decide), show F_mX11_readSign 58 τ2 = _ from c2, bd_is, if_neg (show ¬ (1 : Int32) = 0 by decide)]
            rcases l_order hL c5 hP hn ((hAx1.st a3).st c3) ((hAm1.st a4.1 a4.2).st c4.1 c4.2) hcd (by rw [c3.2 19 (List.not_mem_nil)]; exact u19) (by rw [c4.2]; exact v8) (by rw [c4.1.2 10 (List.not_mem_nil), a4.1.2 10 (List.not_mem_nil)]; exact y10) (by rw [c4.1.2 11 (List.not_mem_nil), a4.1.2 11 (List.not_mem_nil)]; exact y11) ((c4.1.1 15 (by decide)).trans w15) ((c3.1 14 (by decide)).trans z14) ((c4.1.1 14 (by decide)).trans w14) (fr1.tr hX2 (c3.wk (by decide) (by decide)) : GX σ0 σ3) (fr1.tr hM2 (c4.1.wk (by decide) (by decide)) : GM τ0 τ3) rfl with z | z
            · exact Or.inl z.wrap2
            · exact Or.inr ⟨hn, z.wrap2⟩
          · left
            rw [show F_xX9_pass 58 σ2 = _ from c1, bd_is, if_pos rfl, show F_mX11_readSign 58 τ2 = _ from c2, bd_is, if_pos rfl]
            exact PFail.mk hX2 hM2 1 T1.2.1 rfl rfl
    · left
      rw [if_neg ef, if_neg ef]
      exact PFail.mk hX hM 3 T.2.1 (x_fail h.2.2.2.1 3) (m_fail h.2.2.2.2 3)
  · left
    rw [if_neg (show ¬ nI T.1 = 1 from fun q => e ((nk_eq hT (c := 1) (by omega)).mp q)), if_neg (fun z => e (mkd_is.2.1.mp z))]
    exact PFail.mk hX hM 1 T.2.1 (x_fail h.2.2.2.1 1) (m_fail h.2.2.2.2 1)
theorem l_lines {bt : Nat → Int32} {L : Nat} (hL : L ≤ 1200) {σ0 τ0 : St} : ∀ (j fx fm n : Nat) (T : Tk) (D : Nat → Ln) (σ τ : St), n + j = 40 → j < fx → j < fm → RP bt L T σ τ → PR D n σ τ → σ.1 14 = nI n → τ.1 14 = nI n → GX σ0 σ → GM τ0 τ →
    (∃ (k s : Int32) (σ' τ' : St), F_xX6_read_16 fx (nI n) σ = some (0, σ') ∧ F_mX11_program_14 fm τ = some (-1, τ') ∧ GXw σ0 σ' ∧ GMw τ0 τ' ∧ σ'.1 5 = k ∧ σ'.1 6 = s ∧ τ'.1 6 = k ∧ τ'.1 7 = s) ∨ ∃ (n' : Nat) (D' : Nat → Ln) (σ' τ' : St), F_xX6_read_16 fx (nI n) σ = F_xX6_read_49 FU 0 σ' ∧ F_mX11_program_14 fm τ = F_mX11_program_33 FU 0 τ' ∧ PR D' n' σ' τ' ∧ σ'.1 14 = nI n' ∧ τ'.1 14 = nI n' ∧ GX σ0 σ' ∧ GM τ0 τ' := by
  intro j
  induction j with
  | zero =>
    intro fx fm n T D σ τ hn hfx hfm h hP hx hm hX hM
    match fx, hfx, fm, hfm with
    | fx + 1, _, fm + 1, _ =>
      unfold F_xX6_read_16 F_mX11_program_14
      rw [if_neg (show ¬ (40 : Int32) < nI n from nI_nlt (a := 40) (by omega) (by omega)), h.2.2.2.1.2.1, h.2.2.2.2.2.1]
      by_cases e : T.1 = 0
      · right
        rw [if_pos (by rw [e]; rfl), if_pos (mkd_is.1.mpr e)]
        exact ⟨n, D, σ, τ, rfl, rfl, hP, hx, hm, hX, hM⟩
      · left
        rw [if_neg (show ¬ nI T.1 = 0 from fun q => e ((nk_eq h.2.2.1 (c := 0) (by omega)).mp q)), if_neg (fun z => e (mkd_is.1.mp z))]
        rcases l_line hL h hP hx hm hX hM with ⟨k, s, σ', τ', a1, a2, a3⟩ | ⟨q, -⟩
        · exact ⟨k, s, σ', τ', by rw [a1, bd_is, if_pos rfl], by rw [a2, bd_is, if_pos rfl], a3⟩
        · omega
  | succ j ih =>
    intro fx fm n T D σ τ hn hfx hfm h hP hx hm hX hM
    match fx, hfx, fm, hfm with
    | fx + 1, hfx, fm + 1, hfm =>
      unfold F_xX6_read_16 F_mX11_program_14
      rw [if_neg (show ¬ (40 : Int32) < nI n from nI_nlt (a := 40) (by omega) (by omega)), h.2.2.2.1.2.1, h.2.2.2.2.2.1]
      by_cases e : T.1 = 0
      · right
        rw [if_pos (by rw [e]; rfl), if_pos (mkd_is.1.mpr e)]
        exact ⟨n, D, σ, τ, rfl, rfl, hP, hx, hm, hX, hM⟩
      · rw [if_neg (show ¬ nI T.1 = 0 from fun q => e ((nk_eq h.2.2.1 (c := 0) (by omega)).mp q)), if_neg (fun z => e (mkd_is.1.mp z))]
        rcases l_line hL h hP hx hm hX hM with ⟨k, s, σ', τ', a1, a2, a3⟩ | ⟨q, x, T', σ', τ', a1, a2, a3, a4, a5, a6, a7, a8⟩
        · left
          exact ⟨k, s, σ', τ', by rw [a1, bd_is, if_pos rfl], by rw [a2, bd_is, if_pos rfl], a3⟩
        · rw [a1, bd_is, if_neg (show ¬ (1 : Int32) = 0 by decide), a2, bd_is, if_neg (show ¬ (1 : Int32) = 0 by decide), nI_1]
          exact ih fx fm (n + 1) T' (vf_upd D n x) σ' τ' (by omega) (by omega) (by omega) a3 a4 a5 a6 a7 a8
