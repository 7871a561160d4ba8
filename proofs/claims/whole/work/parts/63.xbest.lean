/-! best: the class goes through all rows -/
theorem XL.fr {w : Nat} {rd : Nat → Nat} {c : Nat} {sp : Nat → Nat} {bad : Nat → Int32} {σ σ' : St} {A : Nat} (h : XL w rd c sp bad σ) (hf : fr1 [] [A] σ σ') (hA : A ∉ [26, 27, 28, 29, 30] := by decide) : XL w rd c sp bad σ' := by
  have hm : ∀ k, k ∈ [26, 27, 28, 29, 30] → σ'.2.1 k = σ.2.1 k := fun k hk => hf.2 k (fun z => by rw [List.mem_singleton] at z; exact hA (by rw [← z]; exact hk))
  unfold XL at h ⊢
  rw [hf.1 17 (by decide), hm 26 (by decide), hm 27 (by decide), hm 28 (by decide), hm 29 (by decide), hm 30 (by decide)]
  exact h
/-- the best row of the first r, and its time -/
def bsF (T : Nat → Nat) : Nat → Option (Nat × Nat)
  | 0 => none
  | r + 1 => match bsF T r with
    | none => some (T r, r)
    | some b => if T r < b.1 then some (T r, r) else some b
theorem bs_ok (T : Nat → Nat) : ∀ r b, bsF T r = some b → b.2 < r ∧ b.1 = T b.2
  | 0, b, h => by cases h
  | r + 1, b, h => by
    unfold bsF at h
    cases hr : bsF T r with
    | none => rw [hr] at h; cases h; exact ⟨by omega, rfl⟩
    | some b0 =>
      rw [hr] at h
      dsimp only at h
      by_cases e : T r < b0.1
      · rw [if_pos e] at h; cases h; exact ⟨by omega, rfl⟩
      · rw [if_neg e] at h; cases h
        have := bs_ok T r b hr
        exact ⟨by omega, this.2⟩
theorem bs_some (T : Nat → Nat) (r : Nat) : ∃ b, bsF T (r + 1) = some b := by
  unfold bsF
  cases bsF T r with
  | none => exact ⟨_, rfl⟩
  | some b0 =>
    dsimp only
    by_cases e : T r < b0.1
    · exact ⟨_, if_pos e⟩
    · exact ⟨_, if_neg e⟩
def bT (o : Option (Nat × Nat)) : Int32 := match o with
  | none => -1
  | some b => nI b.1
/-- the best row so far is at hand in an array -/
def RB (A K : Nat) (rs : Nat → Nat) (o : Option (Nat × Nat)) (σ : St) : Prop := ∀ b, o = some b → RA A K rs (urZ K b.2) σ
theorem fct_pos : ∀ K, 0 < fct K
  | 0 => by decide
  | K + 1 => Nat.mul_pos (fct_pos K) (by omega)
theorem fct_le : ∀ K, K < 7 → fct K ≤ 720 := by decide
theorem x_best6 {w t : Nat} {rd pl : Nat → Nat} (hd : DOK w t rd pl) {c K en : Nat} {val : Nat → Int32} {B : Nat → Bool} {sp nw rs : Nat → Nat} {bad : Nat → Int32} (hc : c ≤ 40) (hen : en < c) (hL : LOK w t pl c sp) (h : CH c K B sp nw rs) (hK1 : 1 ≤ K) {T : Nat → Nat} (hT : ∀ r, T r = tmS w rd c en val (lyB B sp rs (urZ K r))) : ∀ (n r : Nat) (f : Nat → Nat) (σ : St), r ≤ fct K → fct K < n + r → OLD c K B sp rs f → NW K nw σ → (r < fct K → RA 54 K rs (urZ K r) σ) → RB 55 K rs (bsF T r) σ → XD w t rd pl σ → XL w rd c f bad σ → XCo c en val σ →
    ∃ σ' b, F_xX8_layBestRow_6 n (bT (bsF T r)) (if r < fct K then 1 else 0) (nI r) σ = some (nI b.1, σ') ∧ bsF T (fct K) = some b ∧ fr1 [] [26, 27, 28, 29, 54, 55] σ σ' ∧ XL w rd c (lyB B sp rs (urZ K b.2)) bad σ' := by
  have hK := h.1
  have hf720 := fct_le K (by omega)
  have hfp := fct_pos K
  intro n
  induction n with
  | zero => intro r f σ h1 h2; omega
  | succ n ih =>
    intro r f σ hr hn hO hN hR hB hD hX hC
    unfold F_xX8_layBestRow_6
    by_cases e : r = fct K
    · subst e
      have hex : (if (720 : Int32) ≤ nI (fct K) then F_xX8_layBestRow_78 (bT (bsF T (fct K))) σ else (if (if fct K < fct K then (1 : Int32) else 0) = 0 then F_xX8_layBestRow_78 (bT (bsF T (fct K))) σ else (bv (F_xX8_layRowv2 σ) fun σ_r5 => (bd (F_xX3_timeOf σ_r5) fun r6 σ_r6 => (if bT (bsF T (fct K)) = (-1) then (F_xX8_layBestRow_49 (F_xX8_layBestRow_6 n) (nI (fct K)) r6 σ_r6) else (if bT (bsF T (fct K)) ≤ r6 then (F_xX8_layBestRow_67 (F_xX8_layBestRow_6 n) (bT (bsF T (fct K))) (nI (fct K)) σ_r6) else (F_xX8_layBestRow_49 (F_xX8_layBestRow_6 n) (nI (fct K)) r6 σ_r6))))))) = F_xX8_layBestRow_78 (bT (bsF T (fct K))) σ := by
        split
        · rfl
        · rw [if_neg (Nat.lt_irrefl _), if_pos rfl]
      rw [hex]
      obtain ⟨b, hb⟩ := bs_some T (fct K - 1)
      rw [show fct K - 1 + 1 = fct K by omega] at hb
      have hb2 := bs_ok T _ b hb
      obtain ⟨σ1, a1, a2, a3⟩ := x_layRow hd hc hL h (GZ_ur (by omega) hb2.1) hO hN (hB b hb) hD hX
      refine ⟨σ1, b, ?_, hb, a2.wk (by decide) (by decide), a3⟩
      unfold F_xX8_layBestRow_78
      rw [a1, bv_is, hb]
      rfl
    · have hlt : r < fct K := by omega
      have hz := GZ_ur (K := K) (by omega) hlt
      obtain ⟨σ1, a1, a2, a3⟩ := x_layRowv2 hd hc hL h hz hO hN (hR hlt) hD hX
      have hN1 := hN.fr a2 (by decide) (by decide)
      have hD1 := hD.fr a2 (by decide) (by decide) (by decide) (by decide)
      have hC1 := hC.fr a2 (by decide) (by decide)
      have hR1 := (hR hlt).fr a2 (by decide)
      have hB1 : RB 55 K rs (bsF T r) σ1 := fun b hb => (hB b hb).fr a2 (by decide)
      have hLz := LOK_ly hL h hz
      have htm := tmS_le (rd := rd) (en := en) (val := val) hd hc hen hLz.1
      rw [← hT r] at htm
      have ht := x_timeOf hd hc hen hLz.1 (XL_iff.mp a3).2.1 hC1.1 hC1.2
      rw [← hT r] at ht
      rw [if_neg (show ¬ (720 : Int32) ≤ nI r from nI_ge (b := 720) (by omega) (by omega)), if_pos hlt, if_neg (by decide), a1, bv_is, ht, bd_is]
      have go : ∀ (σ2 : St), fr1 [] [26, 27, 28, 29, 54, 55] σ σ2 → NW K nw σ2 → RA 54 K rs (urZ K r) σ2 → RB 55 K rs (bsF T (r + 1)) σ2 → XD w t rd pl σ2 → XL w rd c (lyB B sp rs (urZ K r)) bad σ2 → XCo c en val σ2 → ∃ σ' b, F_xX8_layBestRow_67 (F_xX8_layBestRow_6 n) (bT (bsF T (r + 1))) (nI r) σ2 = some (nI b.1, σ') ∧ bsF T (fct K) = some b ∧ fr1 [] [26, 27, 28, 29, 54, 55] σ σ' ∧ XL w rd c (lyB B sp rs (urZ K b.2)) bad σ' := by
        intro σ2 hf2 hN2 hR2 hB2 hD2 hX2 hC2
        unfold F_xX8_layBestRow_67
        rcases x_nextRow hd hL h hK1 hz.1 hN2 hR2 with ⟨e0, e1⟩ | ⟨e0, σ3, e1, e2, e3⟩
        · have hl : r + 1 = fct K := by
            rcases Nat.lt_or_ge (r + 1) (fct K) with q | q
            · exact absurd e0 (ur_next K (by omega) r (by omega)).1
            · omega
          rw [e1, bd_is, nI_1]
          obtain ⟨σ', b, c1, c2, c3, c4⟩ := ih (r + 1) _ σ2 (by omega) (by omega) (OLD_ly h hz) hN2 (fun q => by omega) hB2 hD2 hX2 hC2
          rw [if_neg (by omega)] at c1
          exact ⟨σ', b, c1, c2, hf2.tr c3, c4⟩
        · have hl : r + 1 < fct K := by
            rcases Nat.lt_or_ge (r + 1) (fct K) with q | q
            · exact q
            · have := ur_last K (by omega)
              rw [show fct K - 1 = r by omega] at this
              exact absurd this e0
          rw [(ur_next K (by omega) r (by omega)).2] at e3
          rw [e1, bd_is, nI_1]
          obtain ⟨σ', b, c1, c2, c3, c4⟩ := ih (r + 1) _ σ3 (by omega) (by omega) (OLD_ly h hz) (hN2.fr e2 (by decide) (by decide)) (fun _ => e3) (fun b hb => (hB2 b hb).fr e2 (by decide)) (hD2.fr e2 (by decide) (by decide) (by decide) (by decide)) (hX2.fr e2) (hC2.fr e2 (by decide) (by decide))
          rw [if_pos hl] at c1
          exact ⟨σ', b, c1, c2, (hf2.tr (e2.wk (by decide) (by decide))).tr c3, c4⟩
      have f1 : fr1 [] [26, 27, 28, 29, 54, 55] σ σ1 := a2.wk (by decide) (by decide)
      have better : bsF T (r + 1) = some (T r, r) → ∃ σ' b, F_xX8_layBestRow_49 (F_xX8_layBestRow_6 n) (nI r) (nI (T r)) σ1 = some (nI b.1, σ') ∧ bsF T (fct K) = some b ∧ fr1 [] [26, 27, 28, 29, 54, 55] σ σ' ∧ XL w rd c (lyB B sp rs (urZ K b.2)) bad σ' := by
        intro e2
        have f2 : fr1 [] [55] σ1 (sA σ1 55 (va_cpy (σ1.2.1 54) (σ1.2.1 55) 0 0 6)) := fr1.rf.sA (by decide)
        have := go (sA σ1 55 (va_cpy (σ1.2.1 54) (σ1.2.1 55) 0 0 6)) (f1.tr (f2.wk (by decide) (by decide))) (hN1.fr f2 (by decide) (by decide)) (hR1.fr f2 (by decide)) (fun b hb => by
          rw [e2] at hb
          cases hb
          intro i hi
          show va_cpy (σ1.2.1 54) (σ1.2.1 55) 0 0 6 i = _
          rw [sb_cpy0 (by omega)]
          exact hR1 i hi) (hD1.fr f2 (by decide) (by decide) (by decide) (by decide)) (a3.fr f2) (hC1.fr f2 (by decide) (by decide))
        rw [e2] at this
        exact this
      cases hb : bsF T r with
      | none =>
        rw [show bT none = -1 from rfl, if_pos rfl]
        refine better ?_
        show (match bsF T r with | none => some (T r, r) | some b => if T r < b.1 then some (T r, r) else some b) = _
        rw [hb]
      | some b =>
        have hbk := bs_ok T r b hb
        have hbt : b.1 ≤ 260000 := by
          rw [hbk.2, hT]
          exact tmS_le (rd := rd) (en := en) (val := val) hd hc hen (LOK_ly hL h (GZ_ur (K := K) (by omega) (show b.2 < fct K by omega))).1
        rw [show bT (some b) = nI b.1 from rfl, if_neg (m1_ne _ (by omega))]
        have e3 : bsF T (r + 1) = if T r < b.1 then some (T r, r) else some b := by
          show (match bsF T r with | none => some (T r, r) | some b => if T r < b.1 then some (T r, r) else some b) = _
          rw [hb]
        by_cases hlt2 : T r < b.1
        · rw [if_neg (nI_ge hlt2 (by omega))]
          rw [if_pos hlt2] at e3
          exact better e3
        · rw [if_pos (nI_le (by omega) (by omega))]
          rw [if_neg hlt2] at e3
          have := go σ1 f1 hN1 hR1 (by rw [e3, ← hb]; exact hB1) hD1 a3 hC1
          rw [e3] at this
          exact this
