/-! take -/
theorem x_fill29 : ∀ (f k : Nat) (v : Int32) (σ : St), k ≤ 128 → 128 < f + k → ∃ g, F_xJ7_fill_53178v9_5 f v (nI k) 128 σ = some (sA σ 29 g) ∧ (∀ j, k ≤ j → j < 128 → g j = v) ∧ ∀ j, j < k ∨ 128 ≤ j → g j = σ.2.1 29 j := by
  intro f
  induction f with
  | zero => intro k v σ h1 h2; omega
  | succ f ih =>
    intro k v σ h1 h2
    unfold F_xJ7_fill_53178v9_5
    by_cases e : k = 128
    · subst e
      rw [if_pos (show (128 : Int32) ≤ nI 128 from nI_le (a := 128) (Nat.le_refl _) (by omega))]
      refine ⟨σ.2.1 29, ?_, fun j _ _ => by omega, fun _ _ => rfl⟩
      unfold sA
      rw [vf_self]
    · rw [if_neg (show ¬ (128 : Int32) ≤ nI k from nI_ge (b := 128) (by omega) (by omega)), if_pos (ib_nI (by omega) (by omega)), nI_clamp (by omega), nI_1]
      obtain ⟨g, a1, a2, a3⟩ := ih (k + 1) v (sA σ 29 (upd (σ.2.1 29) k v)) (by omega) (by omega)
      refine ⟨g, by rw [a1, sA_sA], fun j h3 h4 => ?_, fun j h3 => ?_⟩
      · by_cases e2 : j = k
        · rw [a3 j (by omega)]
          show upd (σ.2.1 29) k v j = v
          rw [u_is, if_pos e2]
        · exact a2 j (by omega) h4
      · rw [a3 j (by omega)]
        show upd (σ.2.1 29) k v j = _
        rw [u_is, if_neg (by omega)]
theorem x_can {w t : Nat} {rd pl : Nat → Nat} (hd : DOK w t rd pl) {c k : Nat} {kp : Nat → Nat} {bad : Nat → Int32} (hc : c ≤ 40) (hk : k < 4) (hL : LOK w t pl c kp) {σ : St} (h17 : σ.1 17 = nI c) (hK : ∀ n, n < c → σ.2.1 (32 + k) n = nI (kp n)) (hb : ∀ s, s < 128 → σ.2.1 30 s = bad s) : ∀ (f i : Nat), i ≤ c → c < f + i → (∀ n, n < i → bad (kp n) = 0) → (F_xX3_canRecall_13 f (nI k) (nI i) σ = some (1, σ) ∧ ∀ n, n < c → bad (kp n) = 0) ∨ (F_xX3_canRecall_13 f (nI k) (nI i) σ = some (0, σ) ∧ ∃ n, n < c ∧ ¬ bad (kp n) = 0) := by
  intro f
  induction f with
  | zero => intro i h1 h2; omega
  | succ f ih =>
    intro i h1 h2 hg
    unfold F_xX3_canRecall_13
    rw [h17]
    by_cases e : i = c
    · subst e
      rw [if_pos (nI_le (Nat.le_refl _) (by omega))]
      exact Or.inl ⟨rfl, hg⟩
    have hi : i < c := by omega
    have hs := (there_lt hd (hL.1 i hi)).1
    rw [if_neg (nI_ge hi (by omega)), if_neg (show ¬ (40 : Int32) ≤ nI i from nI_ge (b := 40) (by omega) (by omega)), if_pos (ib_nI hk (by omega)), if_pos (ib_nI (by omega) (by omega)), nI_clamp (by omega), nI_clamp (by omega), hK i hi, if_neg (nI_pos (by omega)), if_neg (show ¬ (128 : Int32) ≤ nI (kp i) from nI_ge (b := 128) hs (by omega)), if_pos (ib_nI hs (by omega)), nI_clamp (by omega), hb _ hs]
    by_cases hz : bad (kp i) = 0
    · rw [if_pos hz, nI_1]
      refine ih (i + 1) (by omega) (by omega) (fun n hn => ?_)
      by_cases e2 : n = i
      · rw [e2]; exact hz
      · exact hg n (by omega)
    · rw [if_neg hz]
      exact Or.inr ⟨rfl, i, hi, hz⟩
theorem x_rec10 {w t : Nat} {rd pl : Nat → Nat} (hd : DOK w t rd pl) {c k : Nat} {kp : Nat → Nat} (hc : c ≤ 40) (hk : k < 4) (hL : LOK w t pl c kp) : ∀ (f i : Nat) (σ : St), i ≤ c → c < f + i → XD w t rd pl σ → σ.1 17 = nI c → (∀ n, n < c → σ.2.1 (32 + k) n = nI (kp n)) → XS w rd i kp σ → (∀ n, n < i → σ.2.1 29 (kp n) = nI n) → (∀ s, s < 128 → (∀ n, n < i → kp n ≠ s) → σ.2.1 29 s = -1) →
    ∃ σ', F_xX3_recall_10 f (nI k) (nI i) σ = some σ' ∧ fr1 [] [26, 27, 28, 29] σ σ' ∧ XS w rd c kp σ' ∧ XN c kp (σ'.2.1 29) := by
  intro f
  induction f with
  | zero => intro i σ h1 h2; omega
  | succ f ih =>
    intro i σ h1 h2 hD h17 hK hS hN1 hN2
    unfold F_xX3_recall_10
    rw [h17]
    by_cases e : i = c
    · subst e
      rw [if_pos (nI_le (Nat.le_refl _) (by omega))]
      exact ⟨σ, rfl, fr1.rf, hS, hN1, hN2⟩
    have hi : i < c := by omega
    have f1 := fr_put (w := w) (rd := rd) i (kp i) σ
    rw [if_neg (nI_ge hi (by omega)), if_neg (show ¬ (40 : Int32) ≤ nI i from nI_ge (b := 40) (by omega) (by omega)), if_pos (ib_nI hk (by omega)), if_pos (ib_nI (by omega) (by omega)), nI_clamp (by omega), nI_clamp (by omega), hK i hi, x_put hd hD (by omega) (hL.1 i hi), bv_is, nI_1]
    obtain ⟨σ', a1, a2, a3, a4⟩ := ih (i + 1) (putS w rd i (kp i) σ) (by omega) (by omega) (hD.fr f1 (by decide) (by decide) (by decide) (by decide)) h17 (fun n hn => by
        rw [f1.2 (32 + k) (by
          rcases (show k = 0 ∨ k = 1 ∨ k = 2 ∨ k = 3 by omega) with rfl | rfl | rfl | rfl <;> decide)]
        exact hK n hn) (by
        intro n hn
        have hp := XS_put (c := i + 1) (w := w) (rd := rd) (sp := kp) (σ := σ) (n := i) (s := kp i)
        by_cases e2 : n = i
        · subst e2
          show upd (σ.2.1 26) n (nI (kp n)) n = _ ∧ upd (σ.2.1 27) n _ n = _ ∧ upd (σ.2.1 28) n _ n = _
          rw [u_is, u_is, u_is, if_pos rfl, if_pos rfl, if_pos rfl]
          exact ⟨rfl, rfl, rfl⟩
        · show upd (σ.2.1 26) i (nI (kp i)) n = _ ∧ upd (σ.2.1 27) i _ n = _ ∧ upd (σ.2.1 28) i _ n = _
          rw [u_is, u_is, u_is, if_neg e2, if_neg e2, if_neg e2]
          exact hS n (by omega)) (fun n hn => by
        show upd (σ.2.1 29) (kp i) (nI i) (kp n) = nI n
        rw [u_is]
        by_cases e2 : n = i
        · rw [e2, if_pos rfl]
        · rw [if_neg (fun z => e2 (hL.2 n i (by omega) hi z))]
          exact hN1 n (by omega)) (fun s hs hno => by
        show upd (σ.2.1 29) (kp i) (nI i) s = -1
        rw [u_is, if_neg (fun z => hno i (by omega) z.symm)]
        exact hN2 s hs (fun n hn => hno n (by omega)))
    exact ⟨σ', a1, f1.tr a2, a3, a4⟩
theorem m_can {w t : Nat} {rd pl : Nat → Nat} (hd : DOK w t rd pl) {c k : Nat} {kp : Nat → Nat} {bad : Nat → Int32} (hc : c ≤ 40) (hk : k < 4) (hL : LOK w t pl c kp) {τ : St} (h12 : τ.1 12 = nI c) (hK : ∀ n, n < c → τ.2.1 28 (40 * k + n) = nI (kp n)) (hb : ∀ s, s < 128 → τ.2.1 4 s = bad s) : ∀ (f i : Nat), i ≤ c → c < f + i → (∀ n, n < i → bad (kp n) = 0) → (F_mX11_take__26 f (nI k) (nI i) τ = F_mX11_take__64 FU (nI k) 0 τ ∧ ∀ n, n < c → bad (kp n) = 0) ∨ (F_mX11_take__26 f (nI k) (nI i) τ = some (-4, τ) ∧ ∃ n, n < c ∧ ¬ bad (kp n) = 0) := by
  intro f
  induction f with
  | zero => intro i h1 h2; omega
  | succ f ih =>
    intro i h1 h2 hg
    unfold F_mX11_take__26
    rw [h12]
    by_cases e : i = c
    · subst e
      rw [if_pos (nI_le (Nat.le_refl _) (by omega))]
      exact Or.inl ⟨rfl, hg⟩
    have hi : i < c := by omega
    have hs := (there_lt hd (hL.1 i hi)).1
    have e4 : (40 : Int32) * nI k + nI i = nI (40 * k + i) := by rw [show (40 : Int32) = nI 40 from rfl, pk_mul, nI_add]
    rw [if_neg (nI_ge hi (by omega)), e4, if_pos (ib_nI (by omega) (by omega)), nI_clamp (by omega), hK i hi, if_pos (ib_nI hs (by omega)), nI_clamp (by omega), hb _ hs]
    by_cases hz : bad (kp i) = 0
    · rw [if_pos hz, nI_1]
      refine ih (i + 1) (by omega) (by omega) (fun n hn => ?_)
      by_cases e2 : n = i
      · rw [e2]; exact hz
      · exact hg n (by omega)
    · rw [if_neg hz]
      exact Or.inr ⟨rfl, i, hi, hz⟩
theorem m_take64 {c k : Nat} {kp : Nat → Nat} (hc : c ≤ 40) (hk : k < 4) : ∀ (f i : Nat) (τ : St), i ≤ c → c < f + i → τ.1 12 = nI c → (∀ n, n < c → τ.2.1 28 (40 * k + n) = nI (kp n)) → (∀ n, n < i → τ.2.1 7 n = nI (kp n)) → ∃ τ', F_mX11_take__64 f (nI k) (nI i) τ = (bd (F_mX11_timeNow τ') fun r2 σ_r2 => some (r2, σ_r2)) ∧ fr1 [] [7] τ τ' ∧ ∀ n, n < c → τ'.2.1 7 n = nI (kp n) := by
  intro f
  induction f with
  | zero => intro i τ h1 h2; omega
  | succ f ih =>
    intro i τ h1 h2 h12 hK h7
    unfold F_mX11_take__64
    rw [h12]
    by_cases e : i = c
    · subst e
      rw [if_pos (nI_le (Nat.le_refl _) (by omega))]
      exact ⟨τ, rfl, fr1.rf, h7⟩
    have hi : i < c := by omega
    have e4 : (40 : Int32) * nI k + nI i = nI (40 * k + i) := by rw [show (40 : Int32) = nI 40 from rfl, pk_mul, nI_add]
    rw [if_neg (nI_ge hi (by omega)), e4, if_pos (ib_nI (by omega) (by omega)), if_pos (ib_nI (by omega) (by omega)), nI_clamp (by omega), nI_clamp (by omega), hK i hi, nI_1]
    have f1 : fr1 [] [7] τ (sA τ 7 (upd (τ.2.1 7) i (nI (kp i)))) := fr1.rf.sA (by decide)
    obtain ⟨τ', a1, a2, a3⟩ := ih (i + 1) (sA τ 7 (upd (τ.2.1 7) i (nI (kp i)))) (by omega) (by omega) h12 hK (fun n hn => by
      show upd (τ.2.1 7) i (nI (kp i)) n = _
      rw [u_is]
      by_cases e2 : n = i
      · rw [if_pos e2, e2]
      · rw [if_neg e2]; exact h7 n (by omega))
    exact ⟨τ', a1, f1.tr a2, a3⟩
theorem XK_at {c : Nat} {ik : Nat → Int32} {kp : Nat → Nat} {σ : St} (h : XK c ik kp σ) {k : Nat} (hk : k < 4) (h1 : ik k = 1) : ∀ n, n < c → σ.2.1 (32 + k) n = nI (kp (40 * k + n)) := by
  rcases (show k = 0 ∨ k = 1 ∨ k = 2 ∨ k = 3 by omega) with rfl | rfl | rfl | rfl
  · exact h.2.1 h1
  · exact h.2.2.1 h1
  · exact h.2.2.2.1 h1
  · exact h.2.2.2.2 h1
theorem api_take (x : Int32) : API (F_xX10_take x) (F_mX11_take_ x) := by
  intro q hq
  have hd := hq.2.1
  have hc : q.1 3 ≤ 40 := hq.2.2.1.1
  have i3 : (3 : Int32).toInt = 3 := rfl
  have i0 : (0 : Int32).toInt = 0 := rfl
  have i4 : (4 : Int32).toInt = 4 := rfl
  rcases nm_cases x (c := 4) (by omega) with ⟨k, hk, rfl⟩ | ⟨hx, -⟩
  · have hin : ¬ (nI k < 0 ∨ 3 < nI k) := by rw [i_lt, i_lt, i0, i3, nI_toInt (by omega)]; omega
    have h4 : nI k < (4 : Int32) := nI_lt (b := 4) hk (by omega)
    have hKk := hq.2.2.2.2.2.1 k hk
    rcases hKk.1 with h0 | h1
    · refine ⟨-4, q, hq, fun σ h => ⟨σ, ?_, h⟩, fun τ h => ⟨τ, ?_, h⟩⟩
      · unfold F_xX10_take F_xX3_canRecall
        rw [if_neg (nI_pos (by omega)), if_pos h4, if_pos (ib_nI hk (by omega)), nI_clamp (by omega), h.2.2.2.2.1.1 k hk, h0, if_pos rfl, bd_is, if_pos rfl]
      · unfold F_mX11_take_
        rw [in_is, if_neg hin, bd_is, if_neg (by decide), if_pos (ib_nI hk (by omega)), nI_clamp (by omega), (h.2.2.2.2.1 k hk).1, h0, if_pos rfl]
    · obtain ⟨hc0, hL⟩ := hKk.2 h1
      have hen := en_lt hq (by omega)
      by_cases hg : ∀ n, n < q.1 3 → q.2.2.2 2 (q.2.1 5 (40 * k + n)) = 0
      · refine ⟨nI (tmS (q.1 1) (q.2.1 0) (q.1 3) (q.1 4) (q.2.2.2 1) (fun n => q.2.1 5 (40 * k + n))), aF q 2 (fun n => q.2.1 5 (40 * k + n)), ⟨hq.1, hq.2.1, hq.2.2.1, hL, hq.2.2.2.2⟩, fun σ h => ?_, fun τ h => ?_⟩
        · have hK := XK_at h.2.2.2.2.1 hk h1
          have hcan : F_xX3_canRecall (nI k) σ = some (1, σ) := by
            unfold F_xX3_canRecall
            rw [if_pos (ib_nI hk (by omega)), nI_clamp (by omega), h.2.2.2.2.1.1 k hk, h1, if_neg (by decide)]
            rcases x_can hd hc hk hL h.2.2.2.1.1 hK h.2.2.2.1.2.2.2 FU 0 (Nat.zero_le _) (by rw [FU_is]; omega) (fun n hn => absurd hn (Nat.not_lt_zero _)) with ⟨h5, -⟩ | ⟨-, n, hn, hz⟩
            · exact h5
            · exact absurd (hg n hn) hz
          obtain ⟨g, f1, f2, -⟩ := x_fill29 FU 0 (-1) σ (by omega) (by rw [FU_is]; omega)
          have fr0 : fr1 [] [26, 27, 28, 29] σ (sA σ 29 g) := fr1.rf.sA (by decide)
          obtain ⟨σ1, a1, a2, a3, a4⟩ := x_rec10 hd hc hk hL FU 0 (sA σ 29 g) (Nat.zero_le _) (by rw [FU_is]; omega) h.2.1 h.2.2.2.1.1 (fun n hn => by
            rw [fr0.2 (32 + k) (by
              rcases (show k = 0 ∨ k = 1 ∨ k = 2 ∨ k = 3 by omega) with rfl | rfl | rfl | rfl <;> decide)]
            exact hK n hn) (fun n hn => absurd hn (Nat.not_lt_zero _)) (fun n hn => absurd hn (Nat.not_lt_zero _)) (fun s hs _ => f2 s (Nat.zero_le _) hs)
          have hrec : F_xX3_recall (nI k) σ = some σ1 := by
            unfold F_xX3_recall F_xJ7_fill_53178v9
            rw [show F_xJ7_fill_53178v9_5 FU (-1) 0 128 σ = _ from f1, bv_is]
            exact a1
          have fr01 := fr0.tr a2
          have hX1 : AX (aF q 2 (fun n => q.2.1 5 (40 * k + n))) σ1 := AX_lay h (fr01.wk (by decide) (by decide)) (XL_iff.mpr ⟨(fr01.1 17 (by decide)).trans h.2.2.2.1.1, a3, a4, fun s hs => by rw [fr01.2 30 (by decide)]; exact h.2.2.2.1.2.2.2 s hs⟩)
          obtain ⟨σ2, b1, b2, b3, -, -, b6⟩ := x_follow hc hX1.2.2.1 hen
          have hX2 := hX1.fr b2 (by decide) (by decide)
          refine ⟨σ2, ?_, hX2⟩
          unfold F_xX10_take
          rw [if_neg (nI_pos (by omega)), if_pos h4, hcan, bd_is, if_neg (by decide), hrec, bv_is, b1, bv_is]
          have hS2 : XS (q.1 1) (q.2.1 0) (q.1 3) (fun n => q.2.1 5 (40 * k + n)) σ2 := XS_of hX2
          rw [x_timeOf hd hc hen hL.1 hS2 b3 b6, bd_is]
          rfl
        · have hM := (h.2.2.2.2.1 k hk).2 h1
          obtain ⟨τ1, a1, a2, a3⟩ := m_take64 (kp := fun n => q.2.1 5 (40 * k + n)) hc hk FU 0 τ (Nat.zero_le _) (by rw [FU_is]; omega) h.2.2.1.1 hM (fun n hn => absurd hn (Nat.not_lt_zero _))
          have hA1 : AM (aF q 2 (fun n => q.2.1 5 (40 * k + n))) τ1 := AM_lay h (a2.wk (by decide) (by decide)) a3
          obtain ⟨τ2, b1, b2⟩ := m_timeNow hd hL.1 hc hen hA1.2.1 hA1.2.2.1 a3
          refine ⟨τ2, ?_, hA1.fr b2 (by decide) (by decide)⟩
          unfold F_mX11_take_
          rw [in_is, if_neg hin, bd_is, if_neg (by decide), if_pos (ib_nI hk (by omega)), nI_clamp (by omega), (h.2.2.2.2.1 k hk).1, h1, if_neg (by decide)]
          rcases m_can hd hc hk hL h.2.2.1.1 hM h.2.2.2.1.2 FU 0 (Nat.zero_le _) (by rw [FU_is]; omega) (fun n hn => absurd hn (Nat.not_lt_zero _)) with ⟨h5, -⟩ | ⟨-, n, hn, hz⟩
          · rw [show F_mX11_take__26 FU (nI k) 0 τ = _ from h5, show F_mX11_take__64 FU (nI k) 0 τ = _ from a1, b1, bd_is]
            rfl
          · exact absurd (hg n hn) hz
      · refine ⟨-4, q, hq, fun σ h => ⟨σ, ?_, h⟩, fun τ h => ⟨τ, ?_, h⟩⟩
        · have hK := XK_at h.2.2.2.2.1 hk h1
          unfold F_xX10_take F_xX3_canRecall
          rw [if_neg (nI_pos (by omega)), if_pos h4, if_pos (ib_nI hk (by omega)), nI_clamp (by omega), h.2.2.2.2.1.1 k hk, h1, if_neg (by decide)]
          rcases x_can hd hc hk hL h.2.2.2.1.1 hK h.2.2.2.1.2.2.2 FU 0 (Nat.zero_le _) (by rw [FU_is]; omega) (fun n hn => absurd hn (Nat.not_lt_zero _)) with ⟨-, h6⟩ | ⟨h5, -⟩
          · exact absurd h6 hg
          · rw [show F_xX3_canRecall_13 FU (nI k) 0 σ = _ from h5, bd_is, if_pos rfl]
        · have hM := (h.2.2.2.2.1 k hk).2 h1
          unfold F_mX11_take_
          rw [in_is, if_neg hin, bd_is, if_neg (by decide), if_pos (ib_nI hk (by omega)), nI_clamp (by omega), (h.2.2.2.2.1 k hk).1, h1, if_neg (by decide)]
          rcases m_can hd hc hk hL h.2.2.1.1 hM h.2.2.2.1.2 FU 0 (Nat.zero_le _) (by rw [FU_is]; omega) (fun n hn => absurd hn (Nat.not_lt_zero _)) with ⟨-, h6⟩ | ⟨h5, -⟩
          · exact absurd h6 hg
          · exact h5
  · refine ⟨-2, q, hq, fun σ h => ⟨σ, ?_, h⟩, fun τ h => ⟨τ, ?_, h⟩⟩
    · unfold F_xX10_take
      by_cases h0 : x < 0
      · rw [if_pos h0]
      · rw [if_neg h0, if_neg (show ¬ x < 4 by
          have := hx.resolve_left h0
          rw [i_le, nI_toInt (by omega)] at this
          rw [i_lt, i4]; omega)]
    · unfold F_mX11_take_
      rw [in_is, if_pos (by
          rcases hx with hx | hx
          · exact Or.inl hx
          · right
            rw [i_le, nI_toInt (by omega)] at hx
            rw [i_lt, i3]; omega), bd_is, if_pos rfl]
