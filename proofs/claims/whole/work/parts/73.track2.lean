/-! both read a drum's track: the cases -/
theorem DFail.wrap {σ0 τ0 : St} {rx rm : Option (Int32 × St)} (h : DFail σ0 τ0 rx rm) : DFail σ0 τ0 (bd rx fun r σ => (if nb r = true then (some (r, σ)) else none)) rm := by
  obtain ⟨k, s, σ', τ', e1, e2⟩ := h
  exact ⟨k, s, σ', τ', by rw [e1, bd_is, if_pos (by decide)], e2⟩
theorem DSucc.wrap {bt : Nat → Int32} {L w n : Nat} {f g : Nat → Nat} {b81 : St → Option (Int32 × St)} {σ0 τ0 : St} {rx rm : Option (Int32 × St)} (h : DSucc bt L w n f g b81 σ0 τ0 rx rm) : DSucc bt L w n f g b81 σ0 τ0 (bd rx fun r σ => (if nb r = true then (some (r, σ)) else none)) rm := by
  obtain ⟨T, σ', τ', e1, e2⟩ := h
  exact ⟨T, σ', τ', by rw [e1, bd_is, if_pos (by decide)], e2⟩
theorem b_track {bt : Nat → Int32} {L : Nat} (hL : L ≤ 1200) {T : Tk} {σ τ σ0 τ0 : St} (h : RP bt L T σ τ) {w n : Nat} {f g : Nat → Nat} (hD : DD w n f g σ τ) (hn : n ≤ 4) (hX : FX σ0 σ) (hM : FM τ0 τ) (m : Nat) :
    DFail σ0 τ0 (F_xX2_readTrack σ) (F_mX11_readDrum_81 (m + 1) τ) ∨ (n < 4 ∧ ∃ f' g', DSucc bt L w n f' g' (F_mX11_readDrum_81 m) σ0 τ0 (F_xX2_readTrack σ) (F_mX11_readDrum_81 (m + 1) τ)) := by
  have hT := h.2.2.1
  obtain ⟨d1, d2, d3, d4, d5, d6, hA⟩ := hD
  unfold F_xX2_readTrack F_mX11_readDrum_81
  rw [x_isWord hT (i := 1) (by omega) h.2.2.2.1, bd_is, x_isWord hT (i := 2) (by omega) h.2.2.2.1, bd_is, m_key15 hL hT h.2.1 h.2.2.2.2, bd_is, m_in, bd_is]
  obtain ⟨k1, k2, k3, k4, k5, k6⟩ := ky_is
  have full : n = 4 → ∀ (r14 r15 : Int32) (RM : Option (Int32 × St)), RM = some (0, mF 4 T.2.1 τ) → DFail σ0 τ0 (F_xX2_readTrack_56 r14 r15 σ) RM := by
    intro e r14 r15 RM hRM
    refine DFail.mk hX hM 4 T.2.1 ?_ hRM
    unfold F_xX2_readTrack_56
    rw [d3, e, if_neg (by decide)]
    exact x_fail h.2.2.2.1 4
  by_cases hnw : T.1 = 1 ∧ (T.2.2.2 = KC 1 ∨ T.2.2.2 = KC 2 ∨ T.2.2.2 = KC 3)
  · obtain ⟨hk1, hv⟩ := hnw
    have hx56 : ∃ r14 r15 : Int32, ((T.2.2.2 = KC 1 ∧ r14 = 1) ∨ (T.2.2.2 = KC 2 ∧ r14 = 0 ∧ r15 = 1) ∨ (T.2.2.2 = KC 3 ∧ r14 = 0 ∧ r15 = 0)) ∧ (if b1 (iw T 1) = 0 then (if b1 (iw T 2) = 0 then (bd (F_xX9_isWord 3 σ) fun r18 σ_r18 => (if r18 = 0 then (bd (F_xX9_fail 1 (σ_r18.1 3) σ_r18) fun r20 σ_r20 => (if nb r20 = true then (some (r20, σ_r20)) else none)) else (F_xX2_readTrack_56 (b1 (iw T 1)) (b1 (iw T 2)) σ_r18))) else (F_xX2_readTrack_56 (b1 (iw T 1)) (b1 (iw T 2)) σ)) else (F_xX2_readTrack_56 (b1 (iw T 1)) (b1 (iw T 2)) σ)) = F_xX2_readTrack_56 r14 r15 σ := by
      refine ⟨b1 (iw T 1), b1 (iw T 2), ?_, ?_⟩
      · rcases hv with q | q | q
        · left
          refine ⟨q, ?_⟩
          rw [show iw T 1 = true from decide_eq_true ⟨hk1, q⟩]; rfl
        · right; left
          refine ⟨q, ?_, ?_⟩
          · rw [show iw T 1 = false from decide_eq_false (fun z => k5 (q.symm.trans z.2))]; rfl
          · rw [show iw T 2 = true from decide_eq_true ⟨hk1, q⟩]; rfl
        · right; right
          refine ⟨q, ?_, ?_⟩
          · rw [show iw T 1 = false from decide_eq_false (fun z => k2 (z.2.symm.trans q))]; rfl
          · rw [show iw T 2 = false from decide_eq_false (fun z => k4 (z.2.symm.trans q))]; rfl
      · by_cases e1 : b1 (iw T 1) = 0
        · rw [if_pos e1]
          by_cases e2 : b1 (iw T 2) = 0
          · rw [if_pos e2, x_isWord hT (i := 3) (by omega) h.2.2.2.1, bd_is, if_neg]
            intro e3
            rw [b1_0] at e1 e2 e3
            have f1 := of_decide_eq_false e1
            have f2 := of_decide_eq_false e2
            have f3 := of_decide_eq_false e3
            rcases hv with q | q | q
            · exact f1 ⟨hk1, q⟩
            · exact f2 ⟨hk1, q⟩
            · exact f3 ⟨hk1, q⟩
          · rw [if_neg e2]
        · rw [if_neg e1]
    obtain ⟨r14, r15, hr, hx56⟩ := hx56
    rw [hx56, if_pos hk1]
    have hky : kyD T.2.2.2 = if T.2.2.2 = KC 3 then 1 else if T.2.2.2 = KC 1 then 2 else 3 := by
      unfold kyD
      rcases hv with q | q | q
      · rw [if_neg (fun z => k1 (q.symm.trans z)), if_neg (fun z => k2 (q.symm.trans z)), if_pos q, if_neg (fun z => k2 (q.symm.trans z)), if_pos q]
      · rw [if_neg (fun z => k3 (q.symm.trans z)), if_neg (fun z => k4 (q.symm.trans z)), if_neg (fun z => k5 (q.symm.trans z)), if_pos q, if_neg (fun z => k4 (q.symm.trans z)), if_neg (fun z => k5 (q.symm.trans z))]
      · rw [if_neg (fun z => k6 (q.symm.trans z)), if_pos q, if_pos q]
    have hin : (if (if (if kyD T.2.2.2 < 1 then (0 : Int32) else if (3 : Int32) < kyD T.2.2.2 then 0 else 1) = 0 then (0 : Int32) else 1) = 0 then (0 : Int32) else 1) = 1 := by
      rw [hky]
      split
      · decide
      · split <;> decide
    have hin' : ¬ (if kyD T.2.2.2 < 1 then (0 : Int32) else if (3 : Int32) < kyD T.2.2.2 then 0 else 1) = 0 := by
      rw [hky]
      split
      · decide
      · split <;> decide
    rw [if_neg hin', d4]
    by_cases e4 : n = 4
    · left
      refine full e4 r14 r15 _ ?_
      rw [if_pos (by rw [e4]; rfl)]
      exact m_fail h.2.2.2.2 4
    · have hn4 : n < 4 := by omega
      rw [if_neg (show ¬ nI n = 4 from fun q => e4 ((nI_eq (b := 4) (by omega) (by omega)).mp q))]
      obtain ⟨σ1, τ1, a1, a2, a3, a4, a5⟩ := b_step hL h
      have hX1 : FX σ0 σ1 := fr1.tr hX (a3.wk (by decide) (by decide))
      have hM1 : FM τ0 τ1 := FM.st hM a4.1 (by decide)
      have hA1 : DA w n f g σ1 τ1 := hA.fr a3 a4.1
      have g9 : σ1.1 9 = nI w := (a3.1 9 (by decide)).trans d1
      have g10 : σ1.1 10 = nI n := (a3.1 10 (by decide)).trans d3
      have t10 : τ1.1 10 = nI w := (a4.1.1 10 (by decide)).trans d2
      have t11 : τ1.1 11 = nI n := (a4.1.1 11 (by decide)).trans d4
      obtain ⟨T1, hT1⟩ : ∃ T1, T1 = tokF bt L T.2.2.1 := ⟨_, rfl⟩
      rw [← hT1] at a5
      have hTO1 := a5.2.2.1
      unfold F_xX2_readTrack_56
      rw [d3, if_pos (show nI n < (4 : Int32) from nI_lt (b := 4) hn4 (by omega)), a1, bv_is, a2, bv_is, t11, show (4 : Int32) + nI n = nI (4 + n) from nI_add 4 n, if_pos (ib_nI (by omega) (by omega)), nI_clamp (by omega), t10]
      -- the reference's state with the track put
      obtain ⟨τ2, hτ2⟩ : ∃ τ2, τ2 = sA (sA τ1 2 (upd (τ1.2.1 2) (4 + n) (nI w))) 3 (upd (τ1.2.1 3) (4 + n) (nI w)) := ⟨_, rfl⟩
      have hM2 : FM τ0 τ2 := by
        rw [hτ2]
        refine ⟨fr1.sA (fr1.sA hM1.1 (by decide)) (by decide), fun k hk => ?_⟩
        show upd (τ1.2.1 2) (4 + n) (nI w) k = _ ∧ upd (τ1.2.1 3) (4 + n) (nI w) k = _
        rw [u_is, u_is, if_neg (by omega), if_neg (by omega)]
        exact hM1.2 k hk
      have hB2 : MB L bt τ2 := by rw [hτ2]; exact a5.2.1
      have hk2 : MTk T1 τ2 := by rw [hτ2]; exact a5.2.2.2.2
      have u10 : τ2.1 10 = nI w := by rw [hτ2]; exact t10
      have u11 : τ2.1 11 = nI n := by rw [hτ2]; exact t11
      have v2 : ∀ k, τ2.2.1 2 k = if k = 4 + n then nI w else τ1.2.1 2 k := fun k => by rw [hτ2]; exact u_is _ _ _ _
      have v3 : ∀ k, τ2.2.1 3 k = if k = 4 + n then nI w else τ1.2.1 3 k := fun k => by rw [hτ2]; exact u_is _ _ _ _
      rw [← hτ2, hky]
      have hk1m : MTk T1 τ1 := a5.2.2.2.2
      have hRP2 : RP bt L T1 σ1 τ2 := ⟨a5.1, hB2, hTO1, a5.2.2.2.1, hk2⟩
      -- the end of a track that has a number
      have numEnd : ∀ (a b : Nat), (1 ≤ a ∧ a ≤ w) → (1 ≤ b ∧ b ≤ w) → ∀ (τ3 : St), RP bt L T1 σ1 τ3 → FM τ0 τ3 → τ3.1 10 = nI w → τ3.1 11 = nI n → (∀ k, k < 4 + n → τ3.2.1 2 k = τ1.2.1 2 k) → (∀ k, k < 4 + n → τ3.2.1 3 k = τ1.2.1 3 k) → τ3.2.1 2 (4 + n) = nI a → τ3.2.1 3 (4 + n) = nI b →
          DFail σ0 τ0 (bv (F_xX1_addTrack (nI a) (nI b) σ1) fun σ_r9 => (bv (F_xX9_advance σ_r9) fun σ_r10 => (bd (F_xX9_pass 59 σ_r10) fun r11 σ_r11 => (if nb r11 = true then (some (r11, σ_r11)) else none)))) (F_mX11_readDrum_275 (F_mX11_readDrum_81 m) τ3) ∨ (n < 4 ∧ ∃ f' g', DSucc bt L w n f' g' (F_mX11_readDrum_81 m) σ0 τ0 (bv (F_xX1_addTrack (nI a) (nI b) σ1) fun σ_r9 => (bv (F_xX9_advance σ_r9) fun σ_r10 => (bd (F_xX9_pass 59 σ_r10) fun r11 σ_r11 => (if nb r11 = true then (some (r11, σ_r11)) else none)))) (F_mX11_readDrum_275 (F_mX11_readDrum_81 m) τ3)) := by
        intro a b ha hb τ3 hR3 hM3 w10 w11 w2 w3 w2' w3'
        rw [x_addTrack g10 hn4, bv_is]
        obtain ⟨σ2, hσ2⟩ : ∃ σ2, σ2 = sA (sA (sI σ1 10 (nI (n + 1))) 8 (upd (σ1.2.1 8) n (nI a))) 9 (upd (σ1.2.1 9) n (nI b)) := ⟨_, rfl⟩
        rw [← hσ2]
        have hX2 : FX σ0 σ2 := by rw [hσ2]; exact fr1.sA (fr1.sA (fr1.sI hX1 (by decide)) (by decide)) (by decide)
        have hR2 : RP bt L T1 σ2 τ3 := by rw [hσ2]; exact ⟨hR3.1, hR3.2.1, hR3.2.2.1, hR3.2.2.2.1, hR3.2.2.2.2⟩
        have hA2 : DA w (n + 1) (vf_upd f n a) (vf_upd g n b) σ2 τ3 := DA_add hA1 ha hb (by rw [hσ2]; rfl) (by rw [hσ2]; rfl) w2 w3 w2' w3'
        obtain ⟨σ3, τ4, c1, c2, c3, c4, c5⟩ := b_step hL hR2
        unfold F_mX11_readDrum_275
        rw [c1, bv_is, c2, bv_is]
        rcases tr_end hL c5 (F_mX11_readDrum_81 m) (σ0 := σ0) (τ0 := τ0) (w := w) (n := n) (f := vf_upd f n a) (g := vf_upd g n b) ((c3.1 9 (by decide)).trans (by rw [hσ2]; exact g9)) ((c4.1.1 10 (by decide)).trans w10) ((c3.1 10 (by decide)).trans (by rw [hσ2]; rfl)) ((c4.1.1 11 (by decide)).trans w11) ⟨d5, d6⟩ (hA2.fr c3 c4.1) (fr1.tr hX2 (c3.wk (by decide) (by decide))) (FM.st hM3 c4.1 (by decide)) with q | q
        · exact Or.inl q
        · exact Or.inr ⟨hn4, _, _, q⟩
      rcases hr with ⟨hv1, r1⟩ | ⟨hv2, r1, r2⟩ | ⟨hv3, r1, r2⟩
      · -- many
        have n3 : ¬ T.2.2.2 = KC 3 := fun z => k2 (hv1.symm.trans z)
        rw [r1, if_neg (show ¬ (1 : Int32) = 0 by decide), if_neg n3, if_pos hv1, if_neg (show ¬ (2 : Int32) = 1 by decide), hk1m.2.1]
        unfold F_xX2_readHeads
        rcases x_within hTO1 a5.2.2.2.1 (a := 2) (b := 4) (by omega) (by omega) with ⟨q1, q2⟩ | ⟨q1, q2, q3⟩ | ⟨q1, q2, q3, q4⟩
        · left
          refine DFail.mk hX1 hM2 1 T1.2.1 ?_ ?_
          · rw [show F_xX2_numberIsWithin 2 4 σ1 = _ from q2, bd_is, if_pos rfl, bd_is, if_pos (by decide)]
          · rw [if_neg (fun z => q1 (mkd_is.2.2.1.mp z))]
            exact m_fail hk2 1
        · left
          have hv := hTO1.2.2.2.2.1 q1
          refine DFail.mk hX1 hM2 2 T1.2.1 ?_ ?_
          · rw [show F_xX2_numberIsWithin 2 4 σ1 = _ from q3, bd_is, if_pos rfl, bd_is, if_pos (by decide)]
          · rw [if_pos (mkd_is.2.2.1.mpr q1), if_pos rfl, hk1m.2.2.2.2 q1, if_neg (show ¬ nI T1.2.2.2 = 2 from fun z => by have := (nI_eq (b := 2) (by omega) (by omega)).mp z; omega), if_neg (show ¬ nI T1.2.2.2 = 4 from fun z => by have := (nI_eq (b := 4) (by omega) (by omega)).mp z; omega)]
            unfold F_mX11_readDrum_227
            exact m_fail hk2 2
        · have e4x := a5.2.2.2.1.2.2.2 (Or.inr q1)
          have e5m := hk2.2.2.2.2 q1
          have e51 := hk1m.2.2.2.2 q1
          rw [show F_xX2_numberIsWithin 2 4 σ1 = _ from q4, bd_is, if_neg (by decide), e4x, if_neg (show ¬ nI T1.2.2.2 < 2 from nI_nlt (b := 2) (by omega) (by omega)), if_pos (mkd_is.2.2.1.mpr q1), if_pos rfl, e51]
          by_cases v3e : T1.2.2.2 = 3
          · left
            refine DFail.mk hX1 hM2 2 T1.2.1 ?_ ?_
            · rw [if_pos (by rw [v3e]; rfl)]
              unfold F_xX2_readHeads_41
              rw [x_fail a5.2.2.2.1 2, bd_is, if_pos (by decide)]
            · rw [v3e, if_neg (by decide), if_neg (by decide)]
              unfold F_mX11_readDrum_227
              exact m_fail hk2 2
          · have h188 : (if nI T1.2.2.2 = 2 then F_mX11_readDrum_188 (F_mX11_readDrum_81 m) 2 (nI (4 + n)) τ2 else (if nI T1.2.2.2 = 4 then F_mX11_readDrum_188 (F_mX11_readDrum_81 m) 2 (nI (4 + n)) τ2 else F_mX11_readDrum_227 τ2)) = F_mX11_readDrum_188 (F_mX11_readDrum_81 m) 2 (nI (4 + n)) τ2 := by
              have : T1.2.2.2 = 2 ∨ T1.2.2.2 = 4 := by omega
              rcases this with z | z
              · rw [if_pos (by rw [z]; rfl)]
              · rw [z, if_neg (by decide), if_pos (by rfl)]
            rw [h188, if_neg (show ¬ nI T1.2.2.2 = 3 from fun z => v3e ((nI_eq (b := 3) (by omega) (by omega)).mp z)), if_neg (nI_ne0 (by omega) (by omega)), g9]
            unfold F_mX11_readDrum_188
            rw [e5m, u10, if_neg (nI_ne0 (by omega) (by omega)), pk_div (by omega) (by omega) (by omega), pk_mul, pk_sub (Nat.div_mul_le_self _ _)]
            have hmd : w - w / T1.2.2.2 * T1.2.2.2 = w % T1.2.2.2 := by
              have := Nat.div_add_mod w T1.2.2.2
              rw [Nat.mul_comm] at this
              omega
            have hml : w % T1.2.2.2 ≤ w := Nat.mod_le _ _
            rw [hmd]
            by_cases em : w % T1.2.2.2 = 0
            · rw [if_pos (by rw [em]; rfl), if_pos (by rw [em]; rfl)]
              have hdl : w / T1.2.2.2 ≤ w := Nat.div_le_self _ _
              have hdp : 1 ≤ w / T1.2.2.2 := (Nat.le_div_iff_mul_le (by omega)).mpr (by omega)
              unfold F_mX11_readDrum_233
              rw [if_pos rfl, e5m, u10, if_neg (nI_ne0 (by omega) (by omega)), pk_div (by omega) (by omega) (by omega)]
              unfold F_mX11_readDrum_259
              rw [if_pos (ib_nI (by omega) (by omega)), if_neg (by decide), nI_clamp (by omega)]
              have := numEnd (w / T1.2.2.2) w ⟨hdp, hdl⟩ ⟨by omega, Nat.le_refl _⟩ (sA τ2 2 (upd (τ2.2.1 2) (4 + n) (nI (w / T1.2.2.2)))) ⟨a5.1, hB2, hTO1, a5.2.2.2.1, hk2⟩ ⟨fr1.sA hM2.1 (by decide), fun k hk => by
                show upd (τ2.2.1 2) (4 + n) _ k = _ ∧ _
                rw [u_is, if_neg (by omega)]
                exact hM2.2 k hk⟩ u10 u11 (fun k hk => by
                show upd (τ2.2.1 2) (4 + n) _ k = _
                rw [u_is, if_neg (by omega), v2, if_neg (by omega)]) (fun k hk => by
                show τ2.2.1 3 k = _
                rw [v3, if_neg (by omega)]) (by
                show upd (τ2.2.1 2) (4 + n) _ (4 + n) = _
                rw [u_is, if_pos rfl]) (by
                show τ2.2.1 3 (4 + n) = _
                rw [v3, if_pos rfl])
              rcases this with q | ⟨q1, f', g', q2⟩
              · exact Or.inl q.wrap
              · exact Or.inr ⟨q1, f', g', q2.wrap⟩
            · left
              refine DFail.mk hX1 hM2 2 T1.2.1 ?_ ?_
              · rw [if_neg (show ¬ nI (w % T1.2.2.2) = 0 from nI_ne0 (by omega) (by omega))]
                unfold F_xX2_readHeads_41
                rw [x_fail a5.2.2.2.1 2, bd_is, if_pos (by decide)]
              · rw [if_neg (show ¬ nI (w % T1.2.2.2) = 0 from nI_ne0 (by omega) (by omega))]
                unfold F_mX11_readDrum_227
                exact m_fail hk2 2
      · -- quick
        have n3 : ¬ T.2.2.2 = KC 3 := fun z => k4 (hv2.symm.trans z)
        have n1 : ¬ T.2.2.2 = KC 1 := fun z => k5 (hv2.symm.trans z)
        rw [r1, r2, if_pos rfl, if_neg (show ¬ (1 : Int32) = 0 by decide), if_neg n3, if_neg n1, if_neg (show ¬ (3 : Int32) = 1 by decide), hk1m.2.1]
        unfold F_xX2_readQuickWords
        rw [g9, if_neg (show ¬ nI w < 8 from nI_nlt (b := 8) (by omega) (by omega))]
        rcases x_within hTO1 a5.2.2.2.1 (a := 2) (b := 8) (by omega) (by omega) with ⟨q1, q2⟩ | ⟨q1, q2, q3⟩ | ⟨q1, q2, q3, q4⟩
        · left
          refine DFail.mk hX1 hM2 1 T1.2.1 ?_ ?_
          · rw [show F_xX2_numberIsWithin 2 8 σ1 = _ from q2, bd_is, if_pos rfl, bd_is, if_pos (by decide)]
          · rw [if_neg (fun z => q1 (mkd_is.2.2.1.mp z))]
            exact m_fail hk2 1
        · left
          have hv := hTO1.2.2.2.2.1 q1
          refine DFail.mk hX1 hM2 2 T1.2.1 ?_ ?_
          · rw [show F_xX2_numberIsWithin 2 8 σ1 = _ from q3, bd_is, if_pos rfl, bd_is, if_pos (by decide)]
          · rw [if_pos (mkd_is.2.2.1.mpr q1), if_neg (show ¬ (3 : Int32) = 2 by decide), hk1m.2.2.2.2 q1, m_in, bd_is]
            have h0 : (if nI T1.2.2.2 < 2 then (0 : Int32) else if (8 : Int32) < nI T1.2.2.2 then 0 else 1) = 0 := by
              by_cases z : T1.2.2.2 < 2
              · rw [if_pos (show nI T1.2.2.2 < 2 from nI_lt (b := 2) z (by omega))]
              · rw [if_neg (show ¬ nI T1.2.2.2 < 2 from nI_nlt (b := 2) (by omega) (by omega)), if_pos (show (8 : Int32) < nI T1.2.2.2 from nI_lt (a := 8) (by omega) (by omega))]
            rw [if_pos h0]
            unfold F_mX11_readDrum_227
            exact m_fail hk2 2
        · have e4x := a5.2.2.2.1.2.2.2 (Or.inr q1)
          have e5m := hk2.2.2.2.2 q1
          have h1 : ¬ (if nI T1.2.2.2 < 2 then (0 : Int32) else if (8 : Int32) < nI T1.2.2.2 then 0 else 1) = 0 := by
            rw [if_neg (show ¬ nI T1.2.2.2 < 2 from nI_nlt (b := 2) (by omega) (by omega)), if_neg (show ¬ (8 : Int32) < nI T1.2.2.2 from nI_nlt (a := 8) (by omega) (by omega))]
            decide
          rw [show F_xX2_numberIsWithin 2 8 σ1 = _ from q4, bd_is, if_neg (by decide), e4x, if_pos (mkd_is.2.2.1.mpr q1), if_neg (show ¬ (3 : Int32) = 2 by decide), hk1m.2.2.2.2 q1, m_in, bd_is, if_neg h1, e5m, u10, if_pos (nI_le (show T1.2.2.2 ≤ w by omega) (by omega))]
          unfold F_mX11_readDrum_233
          rw [if_neg (show ¬ (3 : Int32) = 2 by decide), e5m]
          unfold F_mX11_readDrum_259
          rw [if_pos (ib_nI (by omega) (by omega)), if_pos rfl, if_pos (ib_nI (by omega) (by omega)), nI_clamp (by omega), e5m]
          have := numEnd T1.2.2.2 T1.2.2.2 ⟨by omega, by omega⟩ ⟨by omega, by omega⟩ (sA (sA τ2 2 (upd (τ2.2.1 2) (4 + n) (nI T1.2.2.2))) 3 (upd (τ2.2.1 3) (4 + n) (nI T1.2.2.2))) ⟨a5.1, hB2, hTO1, a5.2.2.2.1, hk2⟩ ⟨fr1.sA (fr1.sA hM2.1 (by decide)) (by decide), fun k hk => by
            show upd (τ2.2.1 2) (4 + n) _ k = _ ∧ upd (τ2.2.1 3) (4 + n) _ k = _
            rw [u_is, if_neg (by omega), u_is, if_neg (by omega)]
            exact hM2.2 k hk⟩ u10 u11 (fun k hk => by
            show upd (τ2.2.1 2) (4 + n) _ k = _
            rw [u_is, if_neg (by omega), v2, if_neg (by omega)]) (fun k hk => by
            show upd (τ2.2.1 3) (4 + n) _ k = _
            rw [u_is, if_neg (by omega), v3, if_neg (by omega)]) (by
            show upd (τ2.2.1 2) (4 + n) _ (4 + n) = _
            rw [u_is, if_pos rfl]) (by
            show upd (τ2.2.1 3) (4 + n) _ (4 + n) = _
            rw [u_is, if_pos rfl])
          rcases this with q | ⟨q1, f', g', q2⟩
          · exact Or.inl q.wrap
          · exact Or.inr ⟨q1, f', g', q2.wrap⟩
      · -- long
        rw [r1, r2, if_pos rfl, if_pos rfl, if_pos hv3, if_pos rfl, g9, x_addTrack g10 hn4, bv_is]
        obtain ⟨σ2, hσ2⟩ : ∃ σ2, σ2 = sA (sA (sI σ1 10 (nI (n + 1))) 8 (upd (σ1.2.1 8) n (nI w))) 9 (upd (σ1.2.1 9) n (nI w)) := ⟨_, rfl⟩
        rw [← hσ2]
        have hX2 : FX σ0 σ2 := by rw [hσ2]; exact fr1.sA (fr1.sA (fr1.sI hX1 (by decide)) (by decide)) (by decide)
        have hR2 : RP bt L T1 σ2 τ2 := by rw [hσ2]; exact ⟨hRP2.1, hRP2.2.1, hRP2.2.2.1, hRP2.2.2.2.1, hRP2.2.2.2.2⟩
        have hA2 : DA w (n + 1) (vf_upd f n w) (vf_upd g n w) σ2 τ2 := DA_add hA1 ⟨by omega, Nat.le_refl _⟩ ⟨by omega, Nat.le_refl _⟩ (by rw [hσ2]; rfl) (by rw [hσ2]; rfl) (fun k hk => by rw [v2, if_neg (by omega)]) (fun k hk => by rw [v3, if_neg (by omega)]) (by rw [v2, if_pos rfl]) (by rw [v3, if_pos rfl])
        rcases tr_end hL hR2 (F_mX11_readDrum_81 m) (σ0 := σ0) (τ0 := τ0) (w := w) (n := n) (f := vf_upd f n w) (g := vf_upd g n w) (by rw [hσ2]; exact g9) u10 (by rw [hσ2]; rfl) u11 ⟨d5, d6⟩ hA2 hX2 hM2 with q | q
        · exact Or.inl q
        · exact Or.inr ⟨hn4, _, _, q⟩
  · left
    have hno : ∀ i, i = 1 ∨ i = 2 ∨ i = 3 → iw T i = false := by
      intro i hi
      refine decide_eq_false (fun z => hnw ⟨z.1, ?_⟩)
      rcases hi with q | q | q
      · rw [q] at z; exact Or.inl z.2
      · rw [q] at z; exact Or.inr (Or.inl z.2)
      · rw [q] at z; exact Or.inr (Or.inr z.2)
    refine DFail.mk hX hM 1 T.2.1 ?_ ?_
    · rw [hno 1 (Or.inl rfl), hno 2 (Or.inr (Or.inl rfl)), if_pos (show b1 false = 0 from rfl), if_pos (show b1 false = 0 from rfl), x_isWord hT (i := 3) (by omega) h.2.2.2.1, bd_is, hno 3 (Or.inr (Or.inr rfl)), if_pos (show b1 false = 0 from rfl)]
      exact x_fail h.2.2.2.1 1
    · have h0 : (if (if T.1 = 1 then kyD T.2.2.2 else -1) < 1 then (0 : Int32) else if (3 : Int32) < (if T.1 = 1 then kyD T.2.2.2 else -1) then 0 else 1) = 0 := by
        by_cases z : T.1 = 1
        · rw [if_pos z]
          unfold kyD
          rw [if_neg (show ¬ T.2.2.2 = KC 3 from fun q => hnw ⟨z, Or.inr (Or.inr q)⟩), if_neg (show ¬ T.2.2.2 = KC 1 from fun q => hnw ⟨z, Or.inl q⟩), if_neg (show ¬ T.2.2.2 = KC 2 from fun q => hnw ⟨z, Or.inr (Or.inl q)⟩)]
          split
          · decide
          · split <;> decide
        · rw [if_neg z]; decide
      rw [if_pos h0]
      exact m_fail h.2.2.2.2 1
