/-! best: the reference's start, and the call -/
def BV (c : Nat) (B : Nat → Bool) : Prop := (∀ n, n < 64 → B n = true → n < c) ∧ 1 ≤ fb_ct B 64 ∧ fb_ct B 64 ≤ 6
theorem m_best5 {c : Nat} {B : Nat → Bool} (hc : c ≤ 40) {x : Int64} (hx : ∀ k, B k = x.toBitVec.toNat.testBit k) : ∀ (f i : Nat) (τ : St), i ≤ 64 → 64 < f + i → τ.1 12 = nI c → fb_ct B i ≤ 6 → (∀ n, n < i → B n = true → n < c ∧ τ.2.1 24 (fb_ct B n) = nI n) →
    ∃ τ', fr1 [] [24] τ τ' ∧ ((BV c B ∧ F_mX11_best_5 f x (nI (fb_ct B i)) (nI i) τ = F_mX11_best_71 FU (nI (fb_ct B 64)) 0 τ' ∧ ∀ n, n < 64 → B n = true → τ'.2.1 24 (fb_ct B n) = nI n) ∨ (¬ BV c B ∧ F_mX11_best_5 f x (nI (fb_ct B i)) (nI i) τ = some (-2, τ'))) := by
  intro f
  induction f with
  | zero => intro i τ h1 h2; omega
  | succ f ih =>
    intro i τ hi hf h12 hk h24
    unfold F_mX11_best_5
    by_cases e : i = 64
    · subst e
      rw [if_pos (show (64 : Int32) ≤ nI 64 from nI_le (a := 64) (Nat.le_refl _) (by omega))]
      refine ⟨τ, fr1.rf, ?_⟩
      by_cases e0 : fb_ct B 64 = 0
      · right
        rw [if_pos (by rw [e0]; rfl)]
        exact ⟨fun q => by have := q.2.1; omega, rfl⟩
      · left
        rw [if_neg (nI_ne0 (by omega) (by omega))]
        exact ⟨⟨fun n hn hB => (h24 n hn hB).1, by omega, hk⟩, rfl, fun n hn hB => (h24 n hn hB).2⟩
    · have hlt : i < 64 := by omega
      have hcs : fb_ct B (i + 1) = fb_ct B i + (if B i then 1 else 0) := rfl
      rw [if_neg (show ¬ (64 : Int32) ≤ nI i from nI_ge (b := 64) (by omega) (by omega))]
      cases hB : B i with
      | false =>
        rw [hB] at hcs
        have hcs' : fb_ct B (i + 1) = fb_ct B i := hcs
        rw [if_pos ((bitL_0 hlt).mpr (by rw [← hx]; exact hB)), nI_1, ← hcs']
        refine ih (i + 1) τ (by omega) (by omega) h12 (by omega) (fun n hn hBn => ?_)
        by_cases e2 : n = i
        · rw [e2, hB] at hBn; cases hBn
        · exact h24 n (by omega) hBn
      | true =>
        rw [hB] at hcs
        have hcs' : fb_ct B (i + 1) = fb_ct B i + 1 := hcs
        rw [if_neg (fun q => by rw [bitL_0 hlt, ← hx, hB] at q; cases q), h12]
        by_cases e1 : c ≤ i
        · rw [if_pos (nI_le e1 (by omega))]
          exact ⟨τ, fr1.rf, Or.inr ⟨fun q => by have := q.1 i hlt hB; omega, rfl⟩⟩
        · rw [if_neg (nI_ge (by omega) (by omega))]
          by_cases e2 : fb_ct B i = 6
          · rw [if_pos (by rw [e2]; rfl)]
            refine ⟨τ, fr1.rf, Or.inr ⟨fun q => ?_, rfl⟩⟩
            have h1 := q.2.2
            have h2 := fb_mono B (show i + 1 ≤ 64 by omega)
            omega
          · rw [if_neg (show ¬ nI (fb_ct B i) = (6 : Int32) from fun q => e2 ((nI_eq (b := 6) (by omega) (by omega)).mp q)), if_pos (ib_nI (by omega) (by omega)), nI_clamp (by omega), nI_1, nI_1, ← hcs']
            have f1 : fr1 [] [24] τ (sA τ 24 (upd (τ.2.1 24) (fb_ct B i) (nI i))) := fr1.rf.sA (by decide)
            obtain ⟨τ', a1, a2⟩ := ih (i + 1) (sA τ 24 (upd (τ.2.1 24) (fb_ct B i) (nI i))) (by omega) (by omega) h12 (by omega) (fun n hn hBn => by
              show n < c ∧ upd (τ.2.1 24) (fb_ct B i) (nI i) (fb_ct B n) = nI n
              rw [u_is]
              by_cases e3 : n = i
              · rw [e3, if_pos rfl]; exact ⟨by omega, rfl⟩
              · rw [if_neg (fun q => e3 (fb_inj B hBn hB q))]
                exact h24 n (by omega) hBn)
            exact ⟨τ', f1.tr a1, a2⟩
theorem m_best71 {w t : Nat} {rd pl : Nat → Nat} (hd : DOK w t rd pl) {c K : Nat} {B : Nat → Bool} {sp nw rs : Nat → Nat} {bad : Nat → Int32} (hc : c ≤ 40) (hL : LOK w t pl c sp) (h : CH c K B sp nw rs) {τ : St} (hN : NM K nw τ) (hM : ML c sp bad τ) : ∀ (f k : Nat), k ≤ K → K < f + k → (∀ j, j < k → bad (sp (nw j)) = 0) →
    ((∀ j, j < K → bad (sp (nw j)) = 0) ∧ F_mX11_best_71 f (nI K) (nI k) τ = F_mX11_best_109 FU (nI K) 0 τ) ∨ ((∃ j, j < K ∧ bad (sp (nw j)) ≠ 0) ∧ F_mX11_best_71 f (nI K) (nI k) τ = some (-4, τ)) := by
  have hK := h.1
  intro f
  induction f with
  | zero => intro k h1 h2; omega
  | succ f ih =>
    intro k hk hf hb
    unfold F_mX11_best_71
    by_cases e : k = K
    · subst e
      rw [if_pos (nI_le (Nat.le_refl _) (by omega))]
      exact Or.inl ⟨hb, rfl⟩
    · have hlt : k < K := by omega
      have hw := h.2.1 k hlt
      have hs := (there_lt hd (hL.1 _ hw.1)).1
      rw [if_neg (nI_ge hlt (by omega)), if_pos (ib_nI (by omega) (by omega)), nI_clamp (by omega), hN k hlt, if_pos (ib_nI (by omega) (by omega)), nI_clamp (by omega), hM.1 _ hw.1, if_pos (ib_nI hs (by omega)), nI_clamp (by omega), hM.2 _ hs]
      by_cases e2 : bad (sp (nw k)) = 0
      · rw [if_pos e2, nI_1]
        refine ih (k + 1) (by omega) (by omega) (fun j hj => ?_)
        by_cases e3 : j = k
        · rw [e3]; exact e2
        · exact hb j (by omega)
      · rw [if_neg e2]
        exact Or.inr ⟨⟨k, hlt, e2⟩, rfl⟩
theorem m_best133 (b109 : Int32 → Int32 → St → Option (Int32 × St)) (x3 x4 : Int32) {k s : Nat} (hk : k < 6) (hs : s < 128) : ∀ (j f : Nat) (g : Nat → Nat) (τ : St), j ≤ k → j < f → (∀ i, i ≤ k → i ≠ j → τ.2.1 25 i = nI (g i) ∧ g i < 128) → ∃ τ', F_mX11_best_133 b109 f x3 x4 (nI s) (nI j) τ = b109 x3 (x4 + 1) τ' ∧ fr1 [] [25] τ τ' ∧ ∀ i, i ≤ k → τ'.2.1 25 i = nI (insF s j g i) := by
  have put : ∀ (j : Nat) (g : Nat → Nat) (τ : St), j ≤ k → (∀ i, i ≤ k → i ≠ j → τ.2.1 25 i = nI (g i) ∧ g i < 128) → ∀ i, i ≤ k → (sA τ 25 (upd (τ.2.1 25) j (nI s))).2.1 25 i = nI (vf_upd g j s i) := by
    intro j g τ hj hg i hi
    show upd (τ.2.1 25) j (nI s) i = _
    rw [u_is]
    unfold vf_upd
    by_cases e : i = j
    · rw [if_pos e, if_pos e]
    · rw [if_neg e, if_neg e]; exact (hg i hi e).1
  intro j
  induction j with
  | zero =>
    intro f g τ hj hf hg
    match f, hf with
    | f + 1, _ =>
      unfold F_mX11_best_133
      rw [if_pos (show nI 0 ≤ (0 : Int32) from nI_le (a := 0) (b := 0) (Nat.le_refl 0) (by omega)), if_pos (ib_nI (by omega) (by omega)), nI_clamp (by omega)]
      exact ⟨_, rfl, fr1.rf.sA (by decide), put 0 g τ hj hg⟩
  | succ j ih =>
    intro f g τ hj hf hg
    match f, hf with
    | f + 1, hf =>
      obtain ⟨g1, g2⟩ := hg j (by omega) (by omega)
      unfold F_mX11_best_133 insF
      rw [if_neg (show ¬ nI (j + 1) ≤ (0 : Int32) from nI_ge (a := 0) (by omega) (by omega)), nI_sub1 (by omega) (by omega), show j + 1 - 1 = j by omega, if_pos (ib_nI (by omega) (by omega)), nI_clamp (by omega), g1, if_pos (ib_nI (by omega) (by omega)), if_pos (ib_nI (by omega) (by omega)), nI_clamp (by omega), nI_dec (by omega) (by omega), show j + 1 - 1 = j by omega]
      by_cases e : g j ≤ s
      · rw [if_pos (nI_le e (by omega)), if_pos e]
        exact ⟨_, rfl, fr1.rf.sA (by decide), put (j + 1) g τ hj hg⟩
      · rw [if_neg (nI_ge (by omega) (by omega)), if_neg e]
        have f1 : fr1 [] [25] τ (sA τ 25 (upd (τ.2.1 25) (j + 1) (nI (g j)))) := fr1.rf.sA (by decide)
        obtain ⟨τ', a1, a2, a3⟩ := ih f (vf_upd g (j + 1) (g j)) (sA τ 25 (upd (τ.2.1 25) (j + 1) (nI (g j)))) (by omega) (by omega) (fun i hi hij => by
          show upd (τ.2.1 25) (j + 1) (nI (g j)) i = nI (vf_upd g (j + 1) (g j) i) ∧ vf_upd g (j + 1) (g j) i < 128
          rw [u_is]
          unfold vf_upd
          by_cases e2 : i = j + 1
          · rw [if_pos e2, if_pos e2]; exact ⟨rfl, g2⟩
          · rw [if_neg e2, if_neg e2]; exact hg i hi e2)
        exact ⟨τ', a1, f1.tr a2, a3⟩
theorem ins_lt {s : Nat} (hs : s < 128) : ∀ (j : Nat) (f : Nat → Nat), (∀ i, f i < 128) → ∀ i, insF s j f i < 128
  | 0, f, hf => fun i => by
    show (if i = 0 then s else f i) < 128
    split
    · exact hs
    · exact hf i
  | j + 1, f, hf => by
    unfold insF
    split
    · intro i
      show (if i = j + 1 then s else f i) < 128
      split
      · exact hs
      · exact hf i
    · refine ins_lt hs j _ (fun i => ?_)
      show (if i = j + 1 then f j else f i) < 128
      split
      · exact hf j
      · exact hf i
theorem m_best109 {w t : Nat} {rd pl : Nat → Nat} (hd : DOK w t rd pl) {c K : Nat} {B : Nat → Bool} {sp nw rs : Nat → Nat} (hc : c ≤ 40) (hL : LOK w t pl c sp) (h : CH c K B sp nw rs) : ∀ (f k : Nat) (τ : St), k ≤ K → K < f + k → NM K nw τ → (∀ n, n < c → τ.2.1 7 n = nI (sp n)) → (∀ i, i < k → τ.2.1 25 i = nI (rkF sp nw k i)) → (∀ i, rkF sp nw k i < 128) →
    ∃ τ', F_mX11_best_109 f (nI K) (nI k) τ = F_mX11_best_195 FU (nI K) 1 2 τ' ∧ fr1 [] [25] τ τ' ∧ ∀ i, i < K → τ'.2.1 25 i = nI (rkF sp nw K i) := by
  have hK := h.1
  intro f
  induction f with
  | zero => intro k τ h1 h2; omega
  | succ f ih =>
    intro k τ hk hf hN h7 h25 hlt128
    unfold F_mX11_best_109
    by_cases e : k = K
    · subst e
      rw [if_pos (nI_le (Nat.le_refl _) (by omega))]
      exact ⟨τ, rfl, fr1.rf, h25⟩
    · have hlt : k < K := by omega
      have hw := h.2.1 k hlt
      have hs := (there_lt hd (hL.1 _ hw.1)).1
      rw [if_neg (nI_ge hlt (by omega)), if_pos (ib_nI (by omega) (by omega)), nI_clamp (by omega), hN k hlt, if_pos (ib_nI (by omega) (by omega)), nI_clamp (by omega), h7 _ hw.1]
      obtain ⟨τ1, a1, a2, a3⟩ := m_best133 (F_mX11_best_109 f) (nI K) (nI k) (k := k) (s := sp (nw k)) (by omega) hs k FU (rkF sp nw k) τ (Nat.le_refl _) (by rw [FU_is]; omega) (fun i hi hne => ⟨h25 i (by omega), hlt128 i⟩)
      rw [a1, nI_1]
      obtain ⟨τ', b1, b2, b3⟩ := ih (k + 1) τ1 (by omega) (by omega) (hN.fr a2 (by decide)) (fun n hn => by rw [a2.2 7 (by decide)]; exact h7 n hn) (fun i hi => a3 i (by omega)) (ins_lt hs k _ hlt128)
      exact ⟨τ', b1, a2.tr b2, b3⟩
theorem m_best195 {K : Nat} (hK : K ≤ 6) (τ : St) : ∀ (f i : Nat), i ≤ K → 1 ≤ i → K < f + i → F_mX11_best_195 f (nI K) (nI (fct i)) (nI (i + 1)) τ = F_mX11_best_220 FU (nI K) (nI (fct K)) (-1) 0 τ := by
  intro f
  induction f with
  | zero => intro i h1 h2 h3; omega
  | succ f ih =>
    intro i h1 h2 h3
    unfold F_mX11_best_195
    by_cases e : i = K
    · subst e
      rw [if_pos (nI_lt (by omega) (by omega))]
    · rw [if_neg (nI_nlt (by omega) (by omega)), pk_mul, nI_1]
      exact ih (i + 1) (by omega) (by omega) (by omega)
theorem api_best (x : Int64) : API (F_xX10_best x) (F_mX11_best x) := by
  intro q hq
  have hd := hq.2.1
  have hc : q.1 3 ≤ 40 := hq.2.2.1.1
  have hL := hq.2.2.2.1
  obtain ⟨B, hx⟩ : ∃ B : Nat → Bool, ∀ k, B k = x.toBitVec.toNat.testBit k := ⟨_, fun _ => rfl⟩
  have hpop : popL x = fb_ct B 64 := by
    have : B = fun k => x.toBitVec.toNat.testBit k := funext hx
    rw [this]
    rfl
  have h64 : ∀ k, 64 ≤ k → B k = false := fun k hk => by
    rw [hx]
    exact Nat.testBit_lt_two_pow (Nat.lt_of_lt_of_le x.toBitVec.isLt (Nat.pow_le_pow_right (by omega) hk))
  have hpl : fb_ct B 64 ≤ 64 := fb_ct_le _ 64
  have hm : ∀ τ, AM q τ → ∃ τ', fr1 [] [24] τ τ' ∧ ((BV (q.1 3) B ∧ F_mX11_best x τ = F_mX11_best_71 FU (nI (fb_ct B 64)) 0 τ' ∧ ∀ n, n < 64 → B n = true → τ'.2.1 24 (fb_ct B n) = nI n) ∨ (¬ BV (q.1 3) B ∧ F_mX11_best x τ = some (-2, τ'))) := by
    intro τ h
    exact m_best5 hc hx FU 0 τ (by omega) (by rw [FU_is]; omega) h.2.2.1.1 (Nat.zero_le _) (fun n hn => by omega)
  by_cases hV : BV (q.1 3) B
  · have hnc : ∀ k, q.1 3 ≤ k → B k = false := by
      intro k hk
      cases hB : B k with
      | false => rfl
      | true =>
        rcases Nat.lt_or_ge k 64 with z | z
        · have := hV.1 k z hB; omega
        · rw [h64 k z] at hB; cases hB
    have hKc : fb_ct B 64 = fb_ct B (q.1 3) := fb_stop B 64 (by omega) hnc
    obtain ⟨K, hKe⟩ : ∃ K, K = fb_ct B (q.1 3) := ⟨_, rfl⟩
    have hK6 : K ≤ 6 := by have := hV.2.2; omega
    have hK1 : 1 ≤ K := by have := hV.2.1; omega
    have hCH : CH (q.1 3) K B (q.2.1 2) (nwF B) (rwF B (q.2.1 2) (q.1 3)) := by
      rw [hKe]
      exact CH_is hL hc (by omega)
    have hc0 : ¬ q.1 3 = 0 := by
      intro z
      have := (hCH.2.1 0 (by omega)).1
      omega
    have hen := en_lt hq hc0
    have hrk : rwF B (q.2.1 2) (q.1 3) = rkF (q.2.1 2) (nwF B) K := by
      rw [hKe]
      exact rk_rw (q.1 3) (fun m hm hB => nwF_is hB (by omega))
    have hxs : ∀ σ, AX q σ → F_xX10_best x σ = (bd (F_xX8_choose x σ) fun r5 σ_r5 => (if r5 = 0 then (some ((-4), σ_r5)) else (bv (F_xX0_follow σ_r5) fun σ_r7 => (bd (F_xX8_layBestRow σ_r7) fun r8 σ_r8 => (some (r8, σ_r8)))))) := by
      intro σ h
      unfold F_xX10_best
      rw [bcL_is, bd_is, hpop, if_neg (show ¬ nI (fb_ct B 64) < 1 from nI_nlt (b := 1) (by have := hV.2.1; omega) (by omega)), if_neg (show ¬ (6 : Int32) < nI (fb_ct B 64) from nI_nlt (a := 6) (by have := hV.2.2; omega) (by omega)), h.2.2.1.1, if_pos ((shr_0 (by omega)).mpr (fun k hk => by rw [← hx]; exact hnc k hk))]
    have hxc : ∀ σ, AX q σ → ∃ σ', fr1 [31] [53, 54] σ σ' ∧ (((∃ n, n < q.1 3 ∧ B n = true ∧ q.2.2.2 2 (q.2.1 2 n) ≠ 0) ∧ F_xX8_choose x σ = some (0, σ')) ∨ ((∀ n, n < q.1 3 → B n = true → q.2.2.2 2 (q.2.1 2 n) = 0) ∧ F_xX8_choose x σ = some (1, σ') ∧ σ'.1 31 = nI (fb_ct B (q.1 3)) ∧ (∀ n, n < q.1 3 → B n = true → σ'.2.1 53 (fb_ct B n) = nI n) ∧ ∀ j, j < fb_ct B (q.1 3) → σ'.2.1 54 j = nI (rwF B (q.2.1 2) (q.1 3) j))) := by
      intro σ h
      have f0 : fr1 [31] [53, 54] σ (sI σ 31 0) := fr1.rf.sI (by decide)
      have h0 := h.fr f0 (by decide) (by decide)
      obtain ⟨σ', a1, a2⟩ := x_choose7 (bad := q.2.2.2 2) hd hc hL (by omega) hx FU 0 (sI σ 31 0) (Nat.zero_le _) (by rw [FU_is]; omega) h0.2.2.2.1 rfl (fun n hn => by omega) (fun j hj => by cases hj) (fun n hn => by omega)
      exact ⟨σ', f0.tr a1, a2⟩
    have hmN : ∀ τ : St, (∀ n, n < 64 → B n = true → τ.2.1 24 (fb_ct B n) = nI n) → NM K (nwF B) τ := by
      intro τ h k hk
      obtain ⟨n1, n2, n3⟩ := hCH.2.1 k hk
      have := h (nwF B k) (by omega) n2
      rwa [n3] at this
    by_cases hbad : ∀ n, n < q.1 3 → B n = true → q.2.2.2 2 (q.2.1 2 n) = 0
    · obtain ⟨T, hT⟩ : ∃ T : Nat → Nat, ∀ r, T r = tmS (q.1 1) (q.2.1 0) (q.1 3) (q.1 4) (q.2.2.2 1) (lyB B (q.2.1 2) (rwF B (q.2.1 2) (q.1 3)) (urZ K r)) := ⟨_, fun _ => rfl⟩
      obtain ⟨b, hb⟩ := bs_some T (fct K - 1)
      have hfp := fct_pos K
      rw [show fct K - 1 + 1 = fct K by omega] at hb
      have hb2 := bs_ok T _ b hb
      refine ⟨nI b.1, aF q 2 (lyB B (q.2.1 2) (rwF B (q.2.1 2) (q.1 3)) (urZ K b.2)), ⟨hq.1, hq.2.1, hq.2.2.1, LOK_ly hL hCH (GZ_ur (by omega) hb2.1), hq.2.2.2.2⟩, fun σ h => ?_, fun τ h => ?_⟩
      · obtain ⟨σ1, a1, a2⟩ := hxc σ h
        rcases a2 with ⟨⟨n, n1, n2, n3⟩, -⟩ | ⟨-, a3, a4, a5, a6⟩
        · exact absurd (hbad n n1 n2) n3
        have h1 := h.fr a1 (by decide) (by decide)
        obtain ⟨σ2, b1, b2, b3, -, -, b6⟩ := x_follow hc h1.2.2.1 hen
        have h2 := h1.fr b2 (by decide) (by decide)
        have hN1 : NW K (nwF B) σ1 := ⟨by rw [hKe]; exact a4, fun k hk => by
          obtain ⟨n1, n2, n3⟩ := hCH.2.1 k hk
          have := a5 (nwF B k) n1 n2
          rwa [n3] at this⟩
        have hR1 : RA 54 K (rwF B (q.2.1 2) (q.1 3)) (urZ K 0) σ1 := fun i hi => by
          rw [ur_first K (by omega) i hi]
          exact a6 i (by omega)
        obtain ⟨σ3, b', c1, c2, c3, c4⟩ := x_best6 (bad := q.2.2.2 2) hd hc hen hL hCH hK1 hT FU 0 (q.2.1 2) σ2 (Nat.zero_le _) (by rw [FU_is]; have := fct_le K (by omega); omega) (OLD_sp hCH) (hN1.fr b2 (by decide) (by decide)) (fun _ => hR1.fr b2 (by decide)) (fun b hb => by cases hb) h2.2.1 h2.2.2.2.1 ⟨b3, b6⟩
        rw [hb] at c2
        cases c2
        rw [if_pos hfp] at c1
        refine ⟨σ3, ?_, AX_lay h2 (c3.wk (by decide) (by decide)) c4⟩
        rw [hxs σ h, a3, bd_is, if_neg (by decide), b1, bv_is]
        unfold F_xX8_layBestRow
        rw [show F_xX8_layBestRow_6 FU (-1) 1 0 σ2 = _ from c1, bd_is]
      · obtain ⟨τ1, a1, a2⟩ := hm τ h
        rcases a2 with ⟨-, a2, a3⟩ | ⟨a2, -⟩
        · have h1 := h.fr a1 (by decide) (by decide)
          have hN := hmN τ1 a3
          rw [hKc, ← hKe] at a2
          rcases m_best71 hd hc hL hCH hN h1.2.2.2.1 FU 0 (Nat.zero_le _) (by rw [FU_is]; omega) (fun j hj => by omega) with ⟨-, b1⟩ | ⟨⟨j, j1, j2⟩, -⟩
          · obtain ⟨τ2, c1, c2, c3⟩ := m_best109 hd hc hL hCH FU 0 τ1 (Nat.zero_le _) (by rw [FU_is]; omega) hN h1.2.2.2.1.1 (fun i hi => by cases hi) (fun i => by show 0 < 128; omega)
            have h2 := h1.fr c2 (by decide) (by decide)
            obtain ⟨τ3, b', d1, d2, d3, d4⟩ := m_best220 hd hc hen hL hCH hT FU 0 τ2 (Nat.zero_le _) (by rw [FU_is]; have := fct_le K (by omega); omega) (hN.fr c2 (by decide)) (fun i hi => by rw [hrk]; exact c3 i hi) (fun n hn _ => h2.2.2.2.1.1 n hn) (fun b hb => by cases hb) h2.2.1 h2.2.2.1
            rw [hb] at d2
            cases d2
            refine ⟨τ3, ?_, AM_lay h2 (d3.wk (by decide) (by decide)) d4⟩
            rw [a2, show F_mX11_best_71 FU (nI K) 0 τ1 = _ from b1, show F_mX11_best_109 FU (nI K) 0 τ1 = _ from c1, show F_mX11_best_195 FU (nI K) 1 2 τ2 = _ from m_best195 hK6 τ2 FU 1 hK1 (by omega) (by rw [FU_is]; omega)]
            exact d1
          · obtain ⟨n1, n2, n3⟩ := hCH.2.1 j j1
            exact absurd (hbad _ n1 n2) j2
        · exact absurd hV a2
    · obtain ⟨n, n1, n2, n3⟩ : ∃ n, n < q.1 3 ∧ B n = true ∧ q.2.2.2 2 (q.2.1 2 n) ≠ 0 := by
        refine Classical.byContradiction (fun z => hbad (fun n n1 n2 => ?_))
        exact Classical.byContradiction (fun n3 => z ⟨n, n1, n2, n3⟩)
      refine ⟨-4, q, hq, fun σ h => ?_, fun τ h => ?_⟩
      · obtain ⟨σ1, a1, a2⟩ := hxc σ h
        rcases a2 with ⟨-, a3⟩ | ⟨a3, -⟩
        · refine ⟨σ1, ?_, h.fr a1 (by decide) (by decide)⟩
          rw [hxs σ h, a3, bd_is, if_pos rfl]
        · exact absurd (a3 n n1 n2) n3
      · obtain ⟨τ1, a1, a2⟩ := hm τ h
        rcases a2 with ⟨-, a2, a3⟩ | ⟨a2, -⟩
        · have h1 := h.fr a1 (by decide) (by decide)
          have hN := hmN τ1 a3
          rw [hKc, ← hKe] at a2
          rcases m_best71 hd hc hL hCH hN h1.2.2.2.1 FU 0 (Nat.zero_le _) (by rw [FU_is]; omega) (fun j hj => by omega) with ⟨b0, -⟩ | ⟨-, b1⟩
          · have hk := hCH.2.2.1 n n1 n2
            have := b0 _ hk
            rw [nwF_is n2 (by omega)] at this
            exact absurd this n3
          · exact ⟨τ1, by rw [a2]; exact b1, h1⟩
        · exact absurd hV a2
  · refine ⟨-2, q, hq, fun σ h => ⟨σ, ?_, h⟩, fun τ h => ?_⟩
    · unfold F_xX10_best
      rw [bcL_is, bd_is, hpop]
      by_cases e1 : fb_ct B 64 < 1
      · rw [if_pos (show nI (fb_ct B 64) < 1 from nI_lt (b := 1) e1 (by omega))]
      · rw [if_neg (show ¬ nI (fb_ct B 64) < 1 from nI_nlt (b := 1) (by omega) (by omega))]
        by_cases e2 : 6 < fb_ct B 64
        · rw [if_pos (show (6 : Int32) < nI (fb_ct B 64) from nI_lt (a := 6) e2 (by omega))]
        · rw [if_neg (show ¬ (6 : Int32) < nI (fb_ct B 64) from nI_nlt (a := 6) (by omega) (by omega)), h.2.2.1.1, if_neg]
          intro z
          rw [shr_0 (by omega)] at z
          refine hV ⟨fun n hn hB => ?_, by omega, by omega⟩
          rcases Nat.lt_or_ge n (q.1 3) with y | y
          · exact y
          · have := z n y
            rw [← hx, hB] at this
            cases this
    · obtain ⟨τ1, a1, a2⟩ := hm τ h
      rcases a2 with ⟨a2, -⟩ | ⟨-, a2⟩
      · exact absurd a2 hV
      · exact ⟨τ1, a2, h.fr a1 (by decide) (by decide)⟩
