/-! mend -/
theorem x_lob {w t : Nat} {rd pl : Nat → Nat} (hd : DOK w t rd pl) {c : Nat} {sp : Nat → Nat} {bad : Nat → Int32} (hL : LOK w t pl c sp) (hc : c ≤ 40) {n : Nat} (hn : n < c) {σ : St} (hX : XL w rd c sp bad σ) : F_xX3_liesOnBad (nI n) σ = some (if bad (sp n) = 0 then 0 else 1, σ) := by
  have h1 := (there_lt hd (hL.1 n hn)).1
  unfold F_xX3_liesOnBad
  rw [if_neg (nI_pos (by omega)), if_pos (show nI n < (40 : Int32) from nI_lt (b := 40) (by omega) (by omega)), if_pos (ib_nI (by omega) (by omega)), nI_clamp (by omega), (hX.2.1 n hn).1, if_neg (nI_pos (by omega)), if_neg (show ¬ (128 : Int32) ≤ nI (sp n) from nI_ge (b := 128) h1 (by omega)), if_pos (ib_nI h1 (by omega)), nI_clamp (by omega), hX.2.2.2 _ h1]
  by_cases h : bad (sp n) = 0
  · rw [if_pos h, if_pos h]
  · rw [if_neg h, if_neg h]
theorem x_cnt {c : Nat} {σ : St} (h : σ.1 17 = nI c) : F_xX3_countNames σ = some (nI c, σ) := by
  unfold F_xX3_countNames
  rw [h]
def mdT (w t : Nat) (rd pl : Nat → Nat) (c en : Nat) (val : Nat → Int32) (bad : Nat → Int32) (n : Nat) (z : Nat × (Nat → Nat)) : Nat × (Nat → Nat) := if bad (z.2 n) = 0 then z else match plS w t rd pl c en val z.2 bad n (t * w) with
  | none => z
  | some b => (z.1 + 1, vf_upd z.2 n b.1)
def mdS (w t : Nat) (rd pl : Nat → Nat) (c en : Nat) (val : Nat → Int32) (bad : Nat → Int32) (sp : Nat → Nat) : Nat → Nat × (Nat → Nat)
  | 0 => (0, sp)
  | k + 1 => mdT w t rd pl c en val bad k (mdS w t rd pl c en val bad sp k)
theorem mdT_ok {w t : Nat} {rd pl : Nat → Nat} (hd : DOK w t rd pl) {c en : Nat} {val : Nat → Int32} {bad : Nat → Int32} (hc : c ≤ 40) (hen : en < c) {n : Nat} (hn : n < c) {z : Nat × (Nat → Nat)} (hL : LOK w t pl c z.2) : LOK w t pl c (mdT w t rd pl c en val bad n z).2 ∧ (mdT w t rd pl c en val bad n z).1 ≤ z.1 + 1 := by
  unfold mdT
  by_cases h : bad (z.2 n) = 0
  · rw [if_pos h]; exact ⟨hL, by omega⟩
  · rw [if_neg h]
    cases hp : plS w t rd pl c en val z.2 bad n (t * w) with
    | none => exact ⟨hL, by show z.1 ≤ z.1 + 1; omega⟩
    | some b =>
      have hb := pl_ok hd hL hc hen hn _ (Nat.le_refl _) b hp
      exact ⟨LOK_move hL hb.1 hb.2.2.1, Nat.le_refl _⟩
theorem mdS_ok {w t : Nat} {rd pl : Nat → Nat} (hd : DOK w t rd pl) {c en : Nat} {val : Nat → Int32} {bad : Nat → Int32} {sp : Nat → Nat} (hc : c ≤ 40) (hen : en < c) (hL : LOK w t pl c sp) : ∀ k, k ≤ c → LOK w t pl c (mdS w t rd pl c en val bad sp k).2 ∧ (mdS w t rd pl c en val bad sp k).1 ≤ k := by
  intro k
  induction k with
  | zero => intro _; exact ⟨hL, Nat.le_refl _⟩
  | succ k ih =>
    intro hk
    have h1 := ih (by omega)
    have h2 := mdT_ok (rd := rd) (en := en) (val := val) (bad := bad) hd hc hen (show k < c by omega) h1.1
    exact ⟨h2.1, by have := h2.2; show (mdT w t rd pl c en val bad k (mdS w t rd pl c en val bad sp k)).1 ≤ k + 1; omega⟩
theorem x_mend4 {w t : Nat} {rd pl : Nat → Nat} (hd : DOK w t rd pl) {c en : Nat} {val : Nat → Int32} {bad : Nat → Int32} {sp : Nat → Nat} (hc : c ≤ 40) (hen : en < c) (hL : LOK w t pl c sp) (hB : BOK bad) : ∀ (f k : Nat) (σ : St), k ≤ c → c < f + k → XD w t rd pl σ → XL w rd c (mdS w t rd pl c en val bad sp k).2 bad σ → XCo c en val σ →
    ∃ σ', F_xX8_leaveBadSpots_4 f (nI (mdS w t rd pl c en val bad sp k).1) (nI k) σ = some (nI (mdS w t rd pl c en val bad sp c).1, σ') ∧ fr1 [] [26, 27, 28, 29] σ σ' ∧ XL w rd c (mdS w t rd pl c en val bad sp c).2 bad σ' := by
  intro f
  induction f with
  | zero => intro k σ h1 h2; omega
  | succ f ih =>
    intro k σ h1 h2 hD hX hC
    unfold F_xX8_leaveBadSpots_4
    rw [x_cnt hX.1, bd_is]
    by_cases e : k = c
    · subst e
      rw [if_pos (nI_le (Nat.le_refl _) (by omega))]
      exact ⟨σ, rfl, fr1.rf, hX⟩
    have hk : k < c := by omega
    have hLk := mdS_ok (rd := rd) (en := en) (val := val) (bad := bad) hd hc hen hL k (by omega)
    rw [if_neg (nI_ge hk (by omega)), x_lob hd hLk.1 hc hk hX, bd_is]
    have hstep : mdS w t rd pl c en val bad sp (k + 1) = mdT w t rd pl c en val bad k (mdS w t rd pl c en val bad sp k) := rfl
    unfold mdT at hstep
    by_cases hb : bad ((mdS w t rd pl c en val bad sp k).2 k) = 0
    · rw [if_pos hb, if_pos rfl]
      rw [if_pos hb] at hstep
      unfold F_xX8_leaveBadSpots_35
      rw [if_pos rfl, nI_1]
      have := ih (k + 1) σ (by omega) (by omega) hD (by rw [hstep]; exact hX) hC
      rw [hstep] at this
      exact this
    · rw [if_neg hb, if_neg (by decide)]
      rw [if_neg hb] at hstep
      obtain ⟨σ1, a1, a2, a3⟩ := x_findPlace (en := en) (val := val) hd hLk.1 hc hen hk hB hD hX hC
      have hD1 := hD.fr a2 (by decide) (by decide) (by decide) (by decide)
      have hC1 := hC.fr a2 (by decide) (by decide)
      rw [a1, bd_is]
      unfold F_xX8_leaveBadSpots_35
      cases hp : plS w t rd pl c en val (mdS w t rd pl c en val bad sp k).2 bad k (t * w) with
      | none =>
        rw [hp] at hstep
        dsimp only at hstep
        show ∃ σ', (if (-1 : Int32) = -1 then _ else _) = _ ∧ _
        rw [if_pos rfl, nI_1]
        obtain ⟨σ', b1, b2, b3⟩ := ih (k + 1) σ1 (by omega) (by omega) hD1 (by rw [hstep]; exact a3) hC1
        rw [hstep] at b1
        exact ⟨σ', b1, a2.tr b2, b3⟩
      | some b =>
        rw [hp] at hstep
        dsimp only at hstep
        have hok := pl_ok hd hLk.1 hc hen hk _ (Nat.le_refl _) b hp
        have hb1 := (there_lt hd hok.1).1
        have hown := (there_lt hd (hLk.1.1 k hk)).1
        have hmv := x_move hd hD1 (show k < 40 by omega) hown (a3.2.1 k hk).1 hok.1
        have hX2 := XL_move hLk.1 a3 hk hok.2.2.1
        have f2 := fr_mov (w := w) (rd := rd) ((mdS w t rd pl c en val bad sp k).2 k) k b.1 σ1
        show ∃ σ', (if nI b.1 = -1 then _ else bv (F_xX3_move (nI k) (nI b.1) σ1) _) = _ ∧ _
        rw [if_neg (m1_ne _ (by omega)), hmv, bv_is, nI_1, nI_1]
        obtain ⟨σ', b1, b2, b3⟩ := ih (k + 1) _ (by omega) (by omega) (hD1.fr f2 (by decide) (by decide) (by decide) (by decide)) (by rw [hstep]; exact hX2) (hC1.fr f2 (by decide) (by decide))
        rw [hstep] at b1
        exact ⟨σ', b1, (a2.tr f2).tr b2, b3⟩
theorem m_mend14 {w t : Nat} {rd pl : Nat → Nat} (hd : DOK w t rd pl) {c en : Nat} {val : Nat → Int32} {bad : Nat → Int32} {sp : Nat → Nat} (hc : c ≤ 40) (hen : en < c) (hL : LOK w t pl c sp) (hB : BOK bad) : ∀ (f k : Nat) (τ : St), k ≤ c → c < f + k → MD w t rd pl τ → MP c en val τ → ML c (mdS w t rd pl c en val bad sp k).2 bad τ →
    ∃ τ', F_mX11_mend_14 f (nI (mdS w t rd pl c en val bad sp k).1) (nI k) τ = some (nI (mdS w t rd pl c en val bad sp c).1, τ') ∧ fr1 [16, 17, 18, 19, 20, 21, 22] [7, 14, 15, 16, 17, 18, 19, 20] τ τ' ∧ ∀ n, n < c → τ'.2.1 7 n = nI ((mdS w t rd pl c en val bad sp c).2 n) := by
  intro f
  induction f with
  | zero => intro k τ h1 h2; omega
  | succ f ih =>
    intro k τ h1 h2 hD hP hM
    unfold F_mX11_mend_14
    rw [hP.1]
    by_cases e : k = c
    · subst e
      rw [if_pos (nI_le (Nat.le_refl _) (by omega))]
      exact ⟨τ, rfl, fr1.rf, hM.1⟩
    have hk : k < c := by omega
    have hLk := mdS_ok (rd := rd) (en := en) (val := val) (bad := bad) hd hc hen hL k (by omega)
    have hown := (there_lt hd (hLk.1.1 k hk)).1
    rw [if_neg (nI_ge hk (by omega)), if_pos (ib_nI (by omega) (by omega)), nI_clamp (by omega), hM.1 k hk, if_pos (ib_nI hown (by omega)), nI_clamp (by omega), hM.2 _ hown]
    have hstep : mdS w t rd pl c en val bad sp (k + 1) = mdT w t rd pl c en val bad k (mdS w t rd pl c en val bad sp k) := rfl
    unfold mdT at hstep
    by_cases hb : bad ((mdS w t rd pl c en val bad sp k).2 k) = 0
    · rw [if_pos hb, nI_1]
      rw [if_pos hb] at hstep
      have := ih (k + 1) τ (by omega) (by omega) hD hP (by rw [hstep]; exact hM)
      rw [hstep] at this
      exact this
    · rw [if_neg hb]
      rw [if_neg hb] at hstep
      obtain ⟨τ1, a1, a2, a3⟩ := m_place (en := en) (val := val) hd hLk.1 hc hen hk hB hD hP hM
      have hD1 := hD.fr a2 (by decide) (by decide) (by decide) (by decide)
      have hP1 := hP.fr a2 (by decide) (by decide) (by decide)
      have h41 : ∀ s, s < 128 → τ1.2.1 4 s = bad s := fun s hs => by rw [a2.2 4 (by decide)]; exact hM.2 s hs
      rw [a1, bd_is]
      cases hp : plS w t rd pl c en val (mdS w t rd pl c en val bad sp k).2 bad k (t * w) with
      | none =>
        rw [hp] at hstep
        dsimp only at hstep
        show ∃ τ', (if (-1 : Int32) = -1 then _ else _) = _ ∧ _
        rw [if_pos rfl, nI_1]
        obtain ⟨τ', b1, b2, b3⟩ := ih (k + 1) τ1 (by omega) (by omega) hD1 hP1 (by rw [hstep]; exact ⟨a3, h41⟩)
        rw [hstep] at b1
        exact ⟨τ', b1, a2.tr b2, b3⟩
      | some b =>
        rw [hp] at hstep
        dsimp only at hstep
        have hok := pl_ok hd hLk.1 hc hen hk _ (Nat.le_refl _) b hp
        have hb1 := (there_lt hd hok.1).1
        show ∃ τ', (if nI b.1 = -1 then _ else F_mX11_mend_14 f _ _ (sA τ1 7 (upd (τ1.2.1 7) k (nI b.1)))) = _ ∧ _
        rw [if_neg (m1_ne _ (by omega)), nI_1, nI_1]
        have f2 : fr1 [16, 17, 18, 19, 20, 21, 22] [7, 14, 15, 16, 17, 18, 19, 20] τ1 (sA τ1 7 (upd (τ1.2.1 7) k (nI b.1))) := fr1.rf.sA (by decide)
        obtain ⟨τ', b1, b2, b3⟩ := ih (k + 1) (sA τ1 7 (upd (τ1.2.1 7) k (nI b.1))) (by omega) (by omega) hD1 hP1 (by
          rw [hstep]
          refine ⟨fun n hn => ?_, h41⟩
          show upd (τ1.2.1 7) k (nI b.1) n = nI (vf_upd (mdS w t rd pl c en val bad sp k).2 k b.1 n)
          rw [u_is]
          unfold vf_upd
          by_cases e : n = k
          · rw [if_pos e, if_pos e]
          · rw [if_neg e, if_neg e]
            exact a3 n hn)
        rw [hstep] at b1
        exact ⟨τ', b1, (a2.tr f2).tr b2, b3⟩
theorem api_mend : API F_xX10_mend F_mX11_mend := by
  intro q hq
  have hd := hq.2.1
  have hc : q.1 3 ≤ 40 := hq.2.2.1.1
  by_cases h0 : q.1 3 = 0
  · refine ⟨-4, q, hq, fun σ h => ⟨σ, ?_, h⟩, fun τ h => ⟨τ, ?_, h⟩⟩
    · unfold F_xX10_mend
      rw [h.2.2.1.1, h0, if_pos nI_0]
    · unfold F_mX11_mend
      rw [h.2.2.1.1, h0, if_pos nI_0]
  · have hen := en_lt hq h0
    have hok := mdS_ok (rd := q.2.1 0) (en := q.1 4) (val := q.2.2.2 1) (bad := q.2.2.2 2) hd hc hen hq.2.2.2.1 (q.1 3) (Nat.le_refl _)
    refine ⟨nI (mdS (q.1 1) (q.1 2) (q.2.1 0) (q.2.1 1) (q.1 3) (q.1 4) (q.2.2.2 1) (q.2.2.2 2) (q.2.1 2) (q.1 3)).1, aF q 2 (mdS (q.1 1) (q.1 2) (q.2.1 0) (q.2.1 1) (q.1 3) (q.1 4) (q.2.2.2 1) (q.2.2.2 2) (q.2.1 2) (q.1 3)).2, ⟨hq.1, hq.2.1, hq.2.2.1, hok.1, hq.2.2.2.2⟩, fun σ h => ?_, fun τ h => ?_⟩
    · obtain ⟨σ1, a1, a2, a3, -, -, a6⟩ := x_follow hc h.2.2.1 hen
      have hX := h.fr a2 (by decide) (by decide)
      obtain ⟨σ2, b1, b2, b3⟩ := x_mend4 (en := q.1 4) (val := q.2.2.2 1) hd hc hen hq.2.2.2.1 hq.2.2.2.2.1 FU 0 σ1 (Nat.zero_le _) (by rw [FU_is]; omega) hX.2.1 hX.2.2.2.1 ⟨a3, a6⟩
      refine ⟨σ2, ?_, AX_lay hX (b2.wk (by decide) (by decide)) b3⟩
      unfold F_xX10_mend F_xX8_leaveBadSpots
      rw [h.2.2.1.1, if_neg (nI_ne0 (by omega) (by omega)), a1, bv_is]
      have b1' : F_xX8_leaveBadSpots_4 FU 0 0 σ1 = _ := b1
      rw [b1', bd_is]
    · obtain ⟨τ2, b1, b2, b3⟩ := m_mend14 (en := q.1 4) (val := q.2.2.2 1) hd hc hen hq.2.2.2.1 hq.2.2.2.2.1 FU 0 τ (Nat.zero_le _) (by rw [FU_is]; omega) h.2.1 h.2.2.1 h.2.2.2.1
      refine ⟨τ2, ?_, AM_lay h (b2.wk (by decide) (by decide)) b3⟩
      unfold F_mX11_mend
      rw [h.2.2.1.1, if_neg (nI_ne0 (by omega) (by omega))]
      exact b1
