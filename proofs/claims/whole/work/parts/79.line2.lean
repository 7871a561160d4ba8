/-! both read a line: orders, numbers, all of it -/
theorem l_order {bt : Nat → Int32} {L : Nat} (hL : L ≤ 1200) {T : Tk} {σ τ σ0 τ0 σs τs : St} (h : RP bt L T σ τ) {D : Nat → Ln} {n cd : Nat} (hP : PR D n σs τs) (hn : n < 40) (hAx : AgX n σs σ) (hAm : AgM n (ncF D n) τs τ) (hcd : 0 < cd ∧ cd < 2 ^ 30) (h19 : σ.2.1 19 n = nI cd) (h8 : τ.2.2.2 8 n = nL cd) (t10 : τ.2.1 10 n = -1) (t11 : τ.2.1 11 n = -1) (h15 : τ.1 15 = nI (ncF D n)) (hx14 : σ.1 14 = nI (n + 1)) (hm14 : τ.1 14 = nI n) (hX : GX σ0 σ) (hM : GM τ0 τ) {RM : Option (Int32 × St)} (hRM : RM = (bd (F_mX11_keyOf 16 τ) fun r11 σ_r11 => (if r11 = (-1) then (bd (F_mX11_fails 1 σ_r11) fun r19 σ_r19 => (if nb r19 = true then (some (r19, σ_r19)) else none)) else (if ib (nI n) 41 = true then (bv (F_mX11_scan (sA σ_r11 9 (upd (σ_r11.2.1 9) (nI n).toNatClampNeg r11))) fun σ_r14 => (bd (F_mX11_in r11 1 7 σ_r14) fun r15 σ_r15 => (if r15 = 0 then (F_mX11_readLine_267 (nI n) σ_r15) else (bd (F_mX11_readName σ_r15) fun r17 σ_r17 => (if ((upd (σ_r17.2.1 10) (nI n).toNatClampNeg r17) (nI n).toNatClampNeg) = (-1) then (some (0, (sA σ_r17 10 (upd (σ_r17.2.1 10) (nI n).toNatClampNeg r17)))) else (F_mX11_readLine_267 (nI n) (sA σ_r17 10 (upd (σ_r17.2.1 10) (nI n).toNatClampNeg r17)))))))) else none)))) :
    PFail σ0 τ0 (F_xX6_readOrderLine (nI n) σ) RM ∨ PSucc bt L D n σ0 τ0 (F_xX6_readOrderLine (nI n) σ) RM := by
  rw [hRM]
  have hT := h.2.2.1
  have hnc := nc_le D n
  unfold F_xX6_readOrderLine
  rw [x_op hT h.2.2.2.1, bd_is, m_key16 hL hT h.2.1 h.2.2.2.2, bd_is]
  obtain ⟨r, hr⟩ : ∃ r, r = (if T.1 = 1 then kyO T.2.2.2 else -1) := ⟨_, rfl⟩
  rw [← hr]
  have hrc : r = -1 ∨ ∃ o, o ≤ 9 ∧ r = nI o := by
    rw [hr]
    by_cases e : T.1 = 1
    · rw [if_pos e]; exact kyO_is _
    · rw [if_neg e]; exact Or.inl rfl
  rcases hrc with hr1 | ⟨o, ho9, hro⟩
  · left
    rw [hr1, if_pos rfl, if_pos rfl]
    exact PFail.mk hX hM 1 T.2.1 (x_fail h.2.2.2.1 1) (m_fail h.2.2.2.2 1)
  · have hne : ¬ r = -1 := by rw [hro]; exact nI_m1 (by omega)
    rw [if_neg hne, if_neg hne, if_pos (ib_nI (by omega) (by omega)), if_pos (ib_nI (by omega) (by omega)), nI_clamp (by omega)]
    obtain ⟨σ1, hσ1⟩ : ∃ σ1, σ1 = sA (sA (sA σ 20 (upd (σ.2.1 20) n 0)) 21 (upd (σ.2.1 21) n 0)) 24 (upd (σ.2.1 24) n r) := ⟨_, rfl⟩
    obtain ⟨τ1, hτ1⟩ : ∃ τ1, τ1 = sA τ 9 (upd (τ.2.1 9) n r) := ⟨_, rfl⟩
    have ex1 : (sA (sA (sA σ 20 (upd (σ.2.1 20) n 0)) 21 (upd (σ.2.1 21) n 0)) 24 (upd (σ.2.1 24) n r)) = σ1 := hσ1.symm
    rw [ex1, ← hτ1]
    have hR1 : RP bt L T σ1 τ1 := by rw [hσ1, hτ1]; exact ⟨h.1, h.2.1, h.2.2.1, h.2.2.2.1, h.2.2.2.2⟩
    obtain ⟨σ2, τ2, a1, a2, a3, a4, a5⟩ := b_step hL hR1
    obtain ⟨T1, hT1⟩ : ∃ T1, T1 = tokF bt L T.2.2.1 := ⟨_, rfl⟩
    rw [← hT1] at a5
    have hTO1 := a5.2.2.1
    rw [a1, bv_is, a2, bv_is, m_in, bd_is]
    have hX2 : GX σ0 σ2 := fr1.tr (by rw [hσ1]; exact fr1.sA (fr1.sA (fr1.sA hX (by decide)) (by decide)) (by decide)) (a3.wk (by decide) (by decide))
    have hM2 : GM τ0 τ2 := fr1.tr (by rw [hτ1]; exact fr1.sA hM (by decide)) (a4.1.wk (by decide) (by decide))
    have hAx2 : AgX n σs σ2 := AgX.st (σ := σ1) (by rw [hσ1]; exact ((hAx.up 20 _).up 21 _).up 24 _) a3
    have hAm2 : AgM n (ncF D n) τs τ2 := AgM.st (τ := τ1) (by rw [hτ1]; exact hAm.up (by decide) _) a4.1 a4.2
    have x19 : σ2.2.1 19 n = nI cd := by rw [a3.2 19 (List.not_mem_nil), hσ1]; exact h19
    have x24 : σ2.2.1 24 n = nI o := by
      rw [a3.2 24 (List.not_mem_nil), hσ1]
      show upd (σ.2.1 24) n r n = _
      rw [u_is, if_pos rfl, hro]
    have x20 : σ2.2.1 20 n = 0 := by
      rw [a3.2 20 (List.not_mem_nil), hσ1]
      show upd (σ.2.1 20) n 0 n = _
      rw [u_is, if_pos rfl]
    have x21 : σ2.2.1 21 n = 0 := by
      rw [a3.2 21 (List.not_mem_nil), hσ1]
      show upd (σ.2.1 21) n 0 n = _
      rw [u_is, if_pos rfl]
    have y8 : τ2.2.2.2 8 n = nL cd := by rw [a4.2, hτ1]; exact h8
    have y9 : τ2.2.1 9 n = nI o := by
      rw [a4.1.2 9 (List.not_mem_nil), hτ1]
      show upd (τ.2.1 9) n r n = _
      rw [u_is, if_pos rfl, hro]
    have y10 : τ2.2.1 10 n = -1 := by rw [a4.1.2 10 (List.not_mem_nil), hτ1]; exact t10
    have y11 : τ2.2.1 11 n = -1 := by rw [a4.1.2 11 (List.not_mem_nil), hτ1]; exact t11
    have y15 : τ2.1 15 = nI (ncF D n) := (a4.1.1 15 (by decide)).trans (by rw [hτ1]; exact h15)
    have z14 : σ2.1 14 = nI (n + 1) := (a3.1 14 (by decide)).trans (by rw [hσ1]; exact hx14)
    have w14 : τ2.1 14 = nI n := (a4.1.1 14 (by decide)).trans (by rw [hτ1]; exact hm14)
    by_cases hop : o < 1 ∨ 7 < o
    · have hx : (if r < 1 then F_xX6_readOrderLine_104 (nI n) σ2 else (if 7 < r then F_xX6_readOrderLine_104 (nI n) σ2 else (bd (F_xX9_pass 1 (sA (sA σ2 20 (upd (σ2.2.1 20) n (σ2.1 4))) 22 (upd (σ2.2.1 22) n (σ2.1 3)))) fun r15 σ_r15 => (if r15 = 0 then (some (0, σ_r15)) else (F_xX6_readOrderLine_104 (nI n) σ_r15))))) = F_xX6_readOrderLine_104 (nI n) σ2 := by
        rw [hro]
        rcases hop with z | z
        · rw [if_pos (show nI o < 1 from nI_lt (b := 1) z (by omega))]
        · rw [if_neg (show ¬ nI o < 1 from nI_nlt (b := 1) (by omega) (by omega)), if_pos (show (7 : Int32) < nI o from nI_lt (a := 7) z (by omega))]
      have hm : (if r < 1 then (0 : Int32) else if (7 : Int32) < r then 0 else 1) = 0 := by
        rw [hro]
        rcases hop with z | z
        · rw [if_pos (show nI o < 1 from nI_lt (b := 1) z (by omega))]
        · rw [if_neg (show ¬ nI o < 1 from nI_nlt (b := 1) (by omega) (by omega)), if_pos (show (7 : Int32) < nI o from nI_lt (a := 7) z (by omega))]
      rw [if_pos hm]
      show PFail σ0 τ0 (if r < 1 then F_xX6_readOrderLine_104 (nI n) σ2 else (if 7 < r then F_xX6_readOrderLine_104 (nI n) σ2 else (bd (F_xX9_pass 1 (sA (sA σ2 20 (upd (σ2.2.1 20) n (σ2.1 4))) 22 (upd (σ2.2.1 22) n (σ2.1 3)))) fun r15 σ_r15 => (if r15 = 0 then (some (0, σ_r15)) else (F_xX6_readOrderLine_104 (nI n) σ_r15))))) _ ∨ PSucc bt L D n σ0 τ0 (if r < 1 then F_xX6_readOrderLine_104 (nI n) σ2 else (if 7 < r then F_xX6_readOrderLine_104 (nI n) σ2 else (bd (F_xX9_pass 1 (sA (sA σ2 20 (upd (σ2.2.1 20) n (σ2.1 4))) 22 (upd (σ2.2.1 22) n (σ2.1 3)))) fun r15 σ_r15 => (if r15 = 0 then (some (0, σ_r15)) else (F_xX6_readOrderLine_104 (nI n) σ_r15))))) _
      rw [hx]
      exact l_rest hL a5 (x := (cd, false, 0, o, 0, 0, 0, 0)) hP hn hAx2 hAm2 ⟨hcd.1, hcd.2, ho9, by show 0 < 2 ^ 30; omega, by show 0 < 2 ^ 30; omega, Nat.zero_le _, Nat.zero_le _, fun z => (by cases z)⟩ ⟨x19, fun z => (by cases z), fun _ => ⟨x24, x20, x21, fun z => absurd rfl z, fun z => absurd rfl z⟩⟩ ⟨y8, fun z => (by cases z), fun _ => ⟨y9, y10, y11⟩, fun z => absurd rfl z, fun z => absurd rfl z⟩ rfl rfl y15 z14 w14 hX2 hM2
    · have hr1 : ¬ r < 1 := by rw [hro]; exact nI_nlt (b := 1) (by omega) (by omega)
      have hr7 : ¬ (7 : Int32) < r := by rw [hro]; exact nI_nlt (a := 7) (by omega) (by omega)
      rw [if_neg hr1, if_neg hr7, if_neg hr1, if_neg hr7, if_neg (show ¬ (1 : Int32) = 0 by decide)]
      obtain ⟨σ3, hσ3⟩ : ∃ σ3, σ3 = sA (sA σ2 20 (upd (σ2.2.1 20) n (σ2.1 4))) 22 (upd (σ2.2.1 22) n (σ2.1 3)) := ⟨_, rfl⟩
      have ex3 : (sA (sA σ2 20 (upd (σ2.2.1 20) n (σ2.1 4))) 22 (upd (σ2.2.1 22) n (σ2.1 3))) = σ3 := hσ3.symm
      rw [ex3]
      have hX3 : GX σ0 σ3 := by rw [hσ3]; exact fr1.sA (fr1.sA hX2 (by decide)) (by decide)
      have hR3 : RP bt L T1 σ3 τ2 := by rw [hσ3]; exact ⟨a5.1, a5.2.1, a5.2.2.1, a5.2.2.2.1, a5.2.2.2.2⟩
      have hAx3 : AgX n σs σ3 := by rw [hσ3]; exact (hAx2.up 20 _).up 22 _
      rcases l_name hL hR3 (m := ncF D n) (by omega) y15 with ⟨q, c1, c2⟩ | ⟨q, σ4, τ4, c1, c2, c3, c4, c5, c6, c7, c8, c9⟩
      · left
        rw [c1, c2, bd_is, bd_is, if_pos rfl, if_pos (by rw [u_is, if_pos rfl])]
        exact PFail.mk hX3 (τ := sA τ2 10 (upd (τ2.2.1 10) n (-1))) (fr1.sA hM2 (by decide)) 1 T1.2.1 rfl rfl
      · have hv := hTO1.2.2.2.1 q
        have hv0 : ¬ T1.2.2.2 = 0 := by omega
        have hse : T1.2.1 ≤ 1200 := by have := hTO1.1; have := hTO1.2.1; omega
        rw [c1, c2, bd_is, bd_is, if_neg (show ¬ (1 : Int32) = 0 by decide), if_neg (by rw [u_is, if_pos rfl]; exact nI_m1 (by omega))]
        obtain ⟨τ5, hτ5⟩ : ∃ τ5, τ5 = sA τ4 10 (upd (τ4.2.1 10) n (nI (ncF D n))) := ⟨_, rfl⟩
        rw [← hτ5]
        have g3 : ∀ a, σ4.2.1 a = σ3.2.1 a := fun a => c3.2 a (List.not_mem_nil)
        have g2 : ∀ a, a ≠ 20 → a ≠ 22 → σ3.2.1 a = σ2.2.1 a := fun a h1 h2 => by rw [hσ3, rA_A, if_neg h2, rA_A, if_neg h1]
        have s20 : σ4.2.1 20 n = nI T1.2.2.2 := by
          rw [g3, hσ3]
          show upd (σ2.2.1 20) n (σ2.1 4) n = _
          rw [u_is, if_pos rfl]
          exact a5.2.2.2.1.2.2.2 (Or.inl q)
        have s22 : σ4.2.1 22 n = nI T1.2.1 := by
          rw [g3, hσ3]
          show upd (σ2.2.1 22) n (σ2.1 3) n = _
          rw [u_is, if_pos rfl]
          exact a5.2.2.2.1.2.2.1
        have t4 : ∀ a, a ≠ 10 → a ≠ 13 → τ5.2.1 a = τ2.2.1 a := fun a h1 h2 => by
          rw [hτ5, rA_A, if_neg h1, c4.2 a (fun z => h2 (List.mem_singleton.mp z))]
        have t10' : τ5.2.1 10 n = nI (ncF D n) := by
          rw [hτ5]
          show upd (τ4.2.1 10) n _ n = _
          rw [u_is, if_pos rfl]
        have hna1 : na ((cd, false, 0, o, T1.2.2.2, T1.2.1, 0, 0) : Ln) = 1 := if_neg hv0
        have hX4 : GX σ0 σ4 := fr1.tr hX3 (c3.wk (by decide) (by decide))
        have hM5 : GM τ0 τ5 := by rw [hτ5]; exact fr1.sA (fr1.tr hM2 (c4.wk (by decide) (by decide))) (by decide)
        have hAm5 : AgM n (ncF D n) τs τ5 := by rw [hτ5]; exact (hAm2.nm (Nat.le_refl _) c4 c6 c7 c8).up (by decide) _
        have hR5 : RP bt L (tokF bt L T1.2.2.1) σ4 τ5 := by rw [hτ5]; exact ⟨c9.1, c9.2.1, c9.2.2.1, c9.2.2.2.1, c9.2.2.2.2⟩
        refine l_rest hL hR5 (x := (cd, false, 0, o, T1.2.2.2, T1.2.1, 0, 0)) hP hn (hAx3.st c3) hAm5 ⟨hcd.1, hcd.2, ho9, hv.2.2.2.2, by show 0 < 2 ^ 30; omega, hse, Nat.zero_le _, fun z => (by cases z)⟩ ⟨?_, fun z => (by cases z), fun _ => ⟨?_, s20, ?_, fun _ => s22, fun z => absurd rfl z⟩⟩ ⟨?_, fun z => (by cases z), fun _ => ⟨?_, ?_, ?_⟩, fun _ => ⟨?_, ?_⟩, fun z => absurd rfl z⟩ rfl rfl ?_ ((c3.1 14 (by decide)).trans (by rw [hσ3]; exact z14)) (by rw [hτ5]; exact (c4.1 14 (by decide)).trans w14) hX4 hM5
        · rw [g3, g2 19 (by decide) (by decide)]; exact x19
        · rw [g3, g2 24 (by decide) (by decide)]; exact x24
        · rw [g3, g2 21 (by decide) (by decide)]; exact x21
        · rw [hτ5]
          show τ4.2.2.2 8 n = _
          rw [c7 8 (by decide)]; exact y8
        · rw [t4 9 (by decide) (by decide)]; exact y9
        · show τ5.2.1 10 n = (if T1.2.2.2 = 0 then -1 else nI (ncF D n))
          rw [t10', if_neg hv0]
        · rw [t4 11 (by decide) (by decide)]; exact y11
        · rw [hτ5]
          show τ4.2.2.2 12 (ncF D n) = _
          rw [c8, if_pos rfl]
        · rw [hτ5]
          show τ4.2.1 13 (ncF D n) = _
          rw [c6, if_pos rfl]
        · rw [hna1, hτ5]
          exact c5
theorem l_num {bt : Nat → Int32} {L : Nat} (hL : L ≤ 1200) {T : Tk} {σ τ σ0 τ0 σs τs : St} (h : RP bt L T σ τ) {D : Nat → Ln} {n cd : Nat} (hP : PR D n σs τs) (hn : n < 40) (hAx : AgX n σs σ) (hAm : AgM n (ncF D n) τs τ) (hcd : 0 < cd ∧ cd < 2 ^ 30) (h19 : σ.2.1 19 n = nI cd) (h24 : σ.2.1 24 n = -1) (h8 : τ.2.2.2 8 n = nL cd) (h15 : τ.1 15 = nI (ncF D n)) (hx14 : σ.1 14 = nI (n + 1)) (hm14 : τ.1 14 = nI n) (hX : GX σ0 σ) (hM : GM τ0 τ) (b : Int32) :
    PFail σ0 τ0 (F_xX6_readNumberLine_43 (nI n) b σ) (F_mX11_readLine_144 (nI n) b τ) ∨ PSucc bt L D n σ0 τ0 (F_xX6_readNumberLine_43 (nI n) b σ) (F_mX11_readLine_144 (nI n) b τ) := by
  have hT := h.2.2.1
  have e43 : F_xX6_readNumberLine_43 (nI n) b σ = F_xX6_readNumberLine_73 (nI n) (if b = 0 then σ.1 4 else -(σ.1 4)) σ := by
    unfold F_xX6_readNumberLine_43
    by_cases q : b = 0
    · rw [if_pos q, if_pos q]
    · rw [if_neg q, if_neg q]
  rw [e43]
  unfold F_xX6_readNumberLine_73 F_mX11_readLine_144
  rw [if_pos (ib_nI (by omega) (by omega)), nI_clamp (by omega), h.2.2.2.2.2.1]
  by_cases e : T.1 = 2
  · have e4 := h.2.2.2.1.2.2.2 (Or.inr e)
    have e5 := h.2.2.2.2.2.2.2.2 e
    rw [if_pos (mkd_is.2.2.1.mpr e), e4, e5]
    obtain ⟨y, hy⟩ : ∃ y, y = (if b = 0 then nI T.2.2.2 else -(nI T.2.2.2)) := ⟨_, rfl⟩
    have em : (if b = 0 then F_mX11_readLine_179 (nI n) (nI n) (nI T.2.2.2) τ else F_mX11_readLine_179 (nI n) (nI n) (-(nI T.2.2.2)) τ) = F_mX11_readLine_179 (nI n) (nI n) y τ := by
      rw [hy]
      by_cases q : b = 0
      · rw [if_pos q, if_pos q]
      · rw [if_neg q, if_neg q]
    rw [em, ← hy]
    unfold F_mX11_readLine_179
    rw [if_pos (ib_nI (by omega) (by omega)), nI_clamp (by omega)]
    have hR1 : RP bt L T (sA σ 16 (upd (σ.2.1 16) n y)) (sA τ 9 (upd (τ.2.1 9) n y)) := ⟨h.1, h.2.1, h.2.2.1, h.2.2.2.1, h.2.2.2.2⟩
    obtain ⟨σ1, τ1, a1, a2, a3, a4, a5⟩ := b_step hL hR1
    have ep : F_xX9_pass 2 (sA σ 16 (upd (σ.2.1 16) n y)) = some (1, σ1) := by
      unfold F_xX9_pass
      rw [show (sA σ 16 (upd (σ.2.1 16) n y)).1 2 = nI T.1 from h.2.2.2.1.2.1, if_pos (by rw [e]; rfl), a1, bv_is]
    rw [ep, bd_is, if_neg (show ¬ (1 : Int32) = 0 by decide), a2, bv_is, if_pos (ib_nI (by omega) (by omega))]
    have hR2 : RP bt L (tokF bt L T.2.2.1) σ1 (sA τ1 10 (upd (τ1.2.1 10) n (-2))) := ⟨a5.1, a5.2.1, a5.2.2.1, a5.2.2.2.1, a5.2.2.2.2⟩
    have hX1 : GX σ0 σ1 := fr1.tr (fr1.sA hX (by decide)) (a3.wk (by decide) (by decide))
    have hM2 : GM τ0 (sA τ1 10 (upd (τ1.2.1 10) n (-2))) := fr1.sA (fr1.tr (fr1.sA hM (by decide)) (a4.1.wk (by decide) (by decide))) (by decide)
    have hPR := PR_add (x := ((cd, true, y, 0, 0, 0, 0, 0) : Ln)) (σ := σ1) (τ := sA τ1 10 (upd (τ1.2.1 10) n (-2))) hP hn ((hAx.up 16 _).st a3) (((hAm.up (k := 9) (by decide) _).st a4.1 a4.2).up (by decide) _) ⟨hcd.1, hcd.2, by show 0 ≤ 9; omega, by show 0 < 2 ^ 30; omega, by show 0 < 2 ^ 30; omega, Nat.zero_le _, Nat.zero_le _, fun _ => ⟨rfl, rfl⟩⟩ ⟨by rw [a3.2 19 (List.not_mem_nil)]; exact h19, fun _ => ⟨by rw [a3.2 24 (List.not_mem_nil)]; exact h24, by
        rw [a3.2 16 (List.not_mem_nil)]
        show upd (σ.2.1 16) n y n = y
        rw [u_is, if_pos rfl]⟩, fun z => (by cases z)⟩ ⟨by
        show τ1.2.2.2 8 n = _
        rw [a4.2]; exact h8, fun _ => ⟨by
        show τ1.2.1 9 n = y
        rw [a4.1.2 9 (List.not_mem_nil)]
        show upd (τ.2.1 9) n y n = y
        rw [u_is, if_pos rfl], by
        show upd (τ1.2.1 10) n (-2) n = -2
        rw [u_is, if_pos rfl]⟩, fun z => (by cases z), fun z => absurd rfl z, fun z => absurd rfl z⟩ ((a4.1.1 15 (by decide)).trans h15)
    rcases l_end hL hR2 hPR ((a3.1 14 (by decide)).trans hx14) ((a4.1.1 14 (by decide)).trans hm14) hX1 hM2 with ⟨k, s, σ', τ', d1, d2, d3⟩ | ⟨x, T', σ', τ', d1, d2, d3⟩
    · left
      refine ⟨k, s, σ', τ', ?_, d2, d3⟩
      rw [unwrap d1, bd_is, if_pos rfl]
    · right
      refine ⟨x, T', σ', τ', ?_, d2, d3⟩
      rw [unwrap d1, bd_is, if_neg (by decide)]
  · left
    rw [if_neg (fun z => e (mkd_is.2.2.1.mp z))]
    obtain ⟨y, hy⟩ : ∃ y, y = (if b = 0 then σ.1 4 else -(σ.1 4)) := ⟨_, rfl⟩
    rw [← hy]
    have hk1 : XTk T (sA σ 16 (upd (σ.2.1 16) n y)) := h.2.2.2.1
    have ep : F_xX9_pass 2 (sA σ 16 (upd (σ.2.1 16) n y)) = some (0, xF 1 T.2.1 (sA σ 16 (upd (σ.2.1 16) n y))) := by
      unfold F_xX9_pass
      rw [hk1.2.1, if_neg (show ¬ nI T.1 = 2 from fun q => e ((nk_eq hT (c := 2) (by omega)).mp q))]
      exact x_fail hk1 1
    rw [ep, bd_is, if_pos rfl]
    exact PFail.mk (fr1.sA hX (by decide)) hM 1 T.2.1 rfl (m_fail h.2.2.2.2 1)
theorem l_number {bt : Nat → Int32} {L : Nat} (hL : L ≤ 1200) {T : Tk} {σ τ σ0 τ0 σs τs : St} (h : RP bt L T σ τ) {D : Nat → Ln} {n cd : Nat} (hP : PR D n σs τs) (hn : n < 40) (hAx : AgX n σs σ) (hAm : AgM n (ncF D n) τs τ) (hcd : 0 < cd ∧ cd < 2 ^ 30) (h19 : σ.2.1 19 n = nI cd) (h8 : τ.2.2.2 8 n = nL cd) (h15 : τ.1 15 = nI (ncF D n)) (hx14 : σ.1 14 = nI (n + 1)) (hm14 : τ.1 14 = nI n) (hX : GX σ0 σ) (hM : GM τ0 τ) {RM : Option (Int32 × St)} (hRM : RM = (bv (F_mX11_scan τ) fun σ_r39 => (if (σ_r39.1 2) = 3 then (bd (F_mX11_see (σ_r39.1 3) σ_r39) fun r41 σ_r41 => (if r41 = 45 then (F_mX11_readLine_135 (nI n) 1 σ_r41) else (F_mX11_readLine_135 (nI n) 0 σ_r41))) else (F_mX11_readLine_135 (nI n) 0 σ_r39)))) :
    PFail σ0 τ0 (F_xX6_readNumberLine (nI n) σ) RM ∨ PSucc bt L D n σ0 τ0 (F_xX6_readNumberLine (nI n) σ) RM := by
  rw [hRM]
  unfold F_xX6_readNumberLine
  rw [if_pos (ib_nI (by omega) (by omega)), nI_clamp (by omega)]
  have hR1 : RP bt L T (sA σ 24 (upd (σ.2.1 24) n (-1))) τ := ⟨h.1, h.2.1, h.2.2.1, h.2.2.2.1, h.2.2.2.2⟩
  obtain ⟨σ1, τ1, a1, a2, a3, a4, a5⟩ := b_step hL hR1
  obtain ⟨T1, hT1⟩ : ∃ T1, T1 = tokF bt L T.2.2.1 := ⟨_, rfl⟩
  rw [← hT1] at a5
  have hTO1 := a5.2.2.1
  have hse : T1.2.1 ≤ 1200 := by have := hTO1.1; have := hTO1.2.1; omega
  rw [a1, bv_is, a2, bv_is, a5.2.2.2.1.2.1, a5.2.2.2.2.2.1, a5.2.2.2.2.2.2.1]
  have hX1 : GX σ0 σ1 := fr1.tr (fr1.sA hX (by decide)) (a3.wk (by decide) (by decide))
  have hM1 : GM τ0 τ1 := fr1.tr hM (a4.1.wk (by decide) (by decide))
  have hAx1 : AgX n σs σ1 := (hAx.up 24 _).st a3
  have hAm1 : AgM n (ncF D n) τs τ1 := hAm.st a4.1 a4.2
  have x19 : σ1.2.1 19 n = nI cd := by rw [a3.2 19 (List.not_mem_nil)]; exact h19
  have x24 : σ1.2.1 24 n = -1 := by
    rw [a3.2 24 (List.not_mem_nil)]
    show upd (σ.2.1 24) n (-1) n = _
    rw [u_is, if_pos rfl]
  have y8 : τ1.2.2.2 8 n = nL cd := by rw [a4.2]; exact h8
  have y15 : τ1.1 15 = nI (ncF D n) := (a4.1.1 15 (by decide)).trans h15
  have z14 : σ1.1 14 = nI (n + 1) := (a3.1 14 (by decide)).trans hx14
  have w14 : τ1.1 14 = nI n := (a4.1.1 14 (by decide)).trans hm14
  by_cases e : T1.1 = 45
  · have hcn : cn bt T1.2.1 = 45 := by rcases hTO1.2.2.2.2.2 with q | q <;> omega
    have hsl := (hTO1.2.2.1 (by omega)).1
    rw [if_pos (by rw [e]; rfl), if_pos (mkd_is.2.2.2.mpr (by omega)), m_see hL a5.2.1 (by omega), bd_is, if_pos (show cbI bt L T1.2.1 = 45 from (cb_eq (c := 45) (by omega)).mpr ⟨hsl, hcn⟩)]
    obtain ⟨σ2, τ2, c1, c2, c3, c4, c5⟩ := b_step hL a5
    unfold F_xX6_readNumberLine_31 F_mX11_readLine_135
    rw [if_neg (show ¬ (1 : Int32) = 0 by decide), if_neg (show ¬ (1 : Int32) = 0 by decide), c1, bv_is, c2, bv_is]
    exact l_num hL c5 hP hn (hAx1.st c3) (hAm1.st c4.1 c4.2) hcd (by rw [c3.2 19 (List.not_mem_nil)]; exact x19) (by rw [c3.2 24 (List.not_mem_nil)]; exact x24) (by rw [c4.2]; exact y8) ((c4.1.1 15 (by decide)).trans y15) ((c3.1 14 (by decide)).trans z14) ((c4.1.1 14 (by decide)).trans w14) (fr1.tr hX1 (c3.wk (by decide) (by decide))) (fr1.tr hM1 (c4.1.wk (by decide) (by decide))) 1
  · have hm : (if mkd T1.1 = 3 then (bd (F_mX11_see (nI T1.2.1) τ1) fun r41 σ_r41 => (if r41 = 45 then (F_mX11_readLine_135 (nI n) 1 σ_r41) else (F_mX11_readLine_135 (nI n) 0 σ_r41))) else (F_mX11_readLine_135 (nI n) 0 τ1)) = F_mX11_readLine_144 (nI n) 0 τ1 := by
      have e135 : F_mX11_readLine_135 (nI n) 0 τ1 = F_mX11_readLine_144 (nI n) 0 τ1 := by
        unfold F_mX11_readLine_135
        rw [if_pos rfl]
      by_cases q : 3 < T1.1
      · rw [if_pos (mkd_is.2.2.2.mpr q), m_see hL a5.2.1 (by omega), bd_is, if_neg]
        · exact e135
        · intro z
          have := ((cb_eq (c := 45) (by omega)).mp z).2
          rcases hTO1.2.2.2.2.2 with q2 | q2
          · omega
          · exact e (q2.2.symm.trans this)
      · rw [if_neg (fun z => q (mkd_is.2.2.2.mp z))]
        exact e135
    rw [hm, if_neg (show ¬ nI T1.1 = 45 from fun q => e ((nk_eq hTO1 (c := 45) (by omega)).mp q))]
    unfold F_xX6_readNumberLine_31
    rw [if_pos rfl]
    exact l_num hL a5 hP hn hAx1 hAm1 hcd x19 x24 y8 y15 z14 w14 hX1 hM1 0
