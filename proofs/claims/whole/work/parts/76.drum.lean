/-! drum -/
/-- a call, from a state that both hold: both answer alike, and both hold the next -/
def API2 (fx fm : St → Option (Int32 × St)) : Prop := ∀ (q : Ab) (σ τ : St), OKq q → AX q σ → AM q τ → ∃ (r : Int32) (q' : Ab) (σ' τ' : St), fx σ = some (r, σ') ∧ fm τ = some (r, τ') ∧ OKq q' ∧ AX q' σ' ∧ AM q' τ'
theorem API.two {fx fm : St → Option (Int32 × St)} (h : API fx fm) : API2 fx fm := by
  intro q σ τ hq hX hM
  obtain ⟨r, q', h1, h2, h3⟩ := h q hq
  obtain ⟨σ', a1, a2⟩ := h2 σ hX
  obtain ⟨τ', c1, c2⟩ := h3 τ hM
  exact ⟨r, q', σ', τ', a1, c1, h1, a2, c2⟩
def qF (q : Ab) (k s : Int32) : Ab := aI (aI (aN q 0 0) 0 k) 1 s
theorem qF_ok {q : Ab} (h : OKq q) (k s : Int32) : OKq (qF q k s) := ⟨Nat.zero_le _, h.2⟩
theorem AX_fail {q : Ab} {σ σ' : St} {k s : Int32} (h : AX q σ) (hf : fr1 [0, 1, 2, 3, 4, 5, 6, 9, 10, 14, 15] [8, 9, 16, 19, 20, 21, 22, 23, 24] σ σ') (h0 : σ'.1 0 = 0) (h5 : σ'.1 5 = k) (h6 : σ'.1 6 = s) : AX (qF q k s) σ' := by
  have i : ∀ k, k ∉ [0, 1, 2, 3, 4, 5, 6, 9, 10, 14, 15] → σ'.1 k = σ.1 k := fun k hk => hf.1 k hk
  have a : ∀ k, k ∉ [8, 9, 16, 19, 20, 21, 22, 23, 24] → σ'.2.1 k = σ.2.1 k := fun k hk => hf.2 k hk
  obtain ⟨h1, h2, h3, h4, h5', h6', h7⟩ := h
  refine ⟨⟨h0, ?_, h5, h6⟩, ?_, ?_, ?_, ?_, ?_, ?_⟩
  · rw [a 2 (by decide)]; exact h1.2.1
  · exact h2.fr hf (by decide) (by decide) (by decide) (by decide)
  · exact h3.fr hf (by decide) (by decide) (by decide)
  · unfold XL at h4 ⊢
    rw [i 17 (by decide), a 26 (by decide), a 27 (by decide), a 28 (by decide), a 29 (by decide), a 30 (by decide)]
    exact h4
  · unfold XK at h5' ⊢
    rw [a 36 (by decide), a 32 (by decide), a 33 (by decide), a 34 (by decide), a 35 (by decide)]
    exact h5'
  · unfold XR at h6' ⊢
    rw [i 23 (by decide), i 24 (by decide), i 25 (by decide), i 26 (by decide), i 27 (by decide), i 28 (by decide), i 29 (by decide), i 30 (by decide), a 42 (by decide), a 43 (by decide), a 44 (by decide), a 45 (by decide), a 46 (by decide), a 47 (by decide), a 48 (by decide), a 49 (by decide), a 50 (by decide)]
    exact h6'
  · unfold XJ at h7 ⊢
    rw [i 32 (by decide), a 57 (by decide), a 58 (by decide), a 59 (by decide)]
    exact h7
theorem AM_fail {q : Ab} (hq : OKq q) {τ τ' : St} {k s : Int32} (h : AM q τ) (hf : fr1 [0, 1, 2, 3, 4, 5, 6, 7, 10, 11, 14, 15] [2, 3, 5, 8, 9, 10, 11, 12, 13] τ τ') (h23 : ∀ k, k < 4 → τ'.2.1 2 k = τ.2.1 2 k ∧ τ'.2.1 3 k = τ.2.1 3 k) (h0 : τ'.1 0 = 0) (h6 : τ'.1 6 = k) (h7 : τ'.1 7 = s) : AM (qF q k s) τ' := by
  have i : ∀ k, k ∉ [0, 1, 2, 3, 4, 5, 6, 7, 10, 11, 14, 15] → τ'.1 k = τ.1 k := fun k hk => hf.1 k hk
  have a : ∀ k, k ∉ [2, 3, 5, 8, 9, 10, 11, 12, 13] → τ'.2.1 k = τ.2.1 k := fun k hk => hf.2 k hk
  obtain ⟨h1, h2, h3, h4, h5', h6', h7'⟩ := h
  have ht := hq.2.1.2.2.2.1
  refine ⟨⟨h0, ?_, h6, h7⟩, ⟨(i 8 (by decide)).trans h2.1, (i 9 (by decide)).trans h2.2.1, fun k hk => ?_⟩, ?_, ?_, ?_, ?_, ?_⟩
  · rw [a 1 (by decide)]; exact h1.2.1
  · have hk' : k < q.1 2 := hk
    have := h23 k (by omega)
    rw [this.1, this.2]
    exact h2.2.2 k hk
  · exact h3.fr hf (by decide) (by decide) (by decide)
  · unfold ML at h4 ⊢
    rw [a 7 (by decide), a 4 (by decide)]
    exact h4
  · unfold MK at h5' ⊢
    rw [a 27 (by decide), a 28 (by decide)]
    exact h5'
  · unfold MR at h6' ⊢
    rw [i 23 (by decide), i 24 (by decide), a 21 (by decide), a 22 (by decide), a 23 (by decide)]
    exact h6'
  · unfold MJ at h7' ⊢
    rw [i 25 (by decide), a 31 (by decide), a 32 (by decide)]
    exact h7'
theorem x_copy {w t : Nat} {f g : Nat → Nat} (ht : t ≤ 4) : ∀ (n k : Nat) (σ : St), k ≤ 4 → 4 < n + k → (∀ j, j < t → σ.2.1 8 j = nI (f j) ∧ σ.2.1 9 j = nI (g j)) → (∀ j, j < t → j < k → σ.2.1 4 j = nI (f j) ∧ σ.2.1 5 j = nI (g j)) → ∃ σ', F_xX1_copyFrom_18 n (nI k) σ = some σ' ∧ fr1 [] [4, 5] σ σ' ∧ ∀ j, j < t → σ'.2.1 4 j = nI (f j) ∧ σ'.2.1 5 j = nI (g j) := by
  intro n
  induction n with
  | zero => intro k σ h1 h2; omega
  | succ n ih =>
    intro k σ hk hn h8 h4
    unfold F_xX1_copyFrom_18
    by_cases e : k = 4
    · subst e
      rw [if_pos (show (4 : Int32) ≤ nI 4 from nI_le (a := 4) (Nat.le_refl _) (by omega))]
      exact ⟨σ, rfl, fr1.rf, fun j hj => h4 j hj (by omega)⟩
    · rw [if_neg (show ¬ (4 : Int32) ≤ nI k from nI_ge (b := 4) (by omega) (by omega)), if_pos (ib_nI (by omega) (by omega)), nI_clamp (by omega), nI_1]
      have f1 : fr1 [] [4, 5] σ (sA (sA σ 4 (upd (σ.2.1 4) k (σ.2.1 8 k))) 5 (upd (σ.2.1 5) k (σ.2.1 9 k))) := (fr1.rf.sA (by decide)).sA (by decide)
      obtain ⟨σ', a1, a2, a3⟩ := ih (k + 1) (sA (sA σ 4 (upd (σ.2.1 4) k (σ.2.1 8 k))) 5 (upd (σ.2.1 5) k (σ.2.1 9 k))) (by omega) (by omega) h8 (fun j hj hjk => by
        show upd (σ.2.1 4) k (σ.2.1 8 k) j = _ ∧ upd (σ.2.1 5) k (σ.2.1 9 k) j = _
        rw [u_is, u_is]
        by_cases q : j = k
        · rw [if_pos q, if_pos q, ← q]; exact h8 j hj
        · rw [if_neg q, if_neg q]; exact h4 j hj (by omega))
      exact ⟨σ', a1, f1.tr a2, a3⟩
theorem m_copy {t : Nat} {f g : Nat → Nat} (ht : t ≤ 4) : ∀ (n k : Nat) (τ : St), k ≤ 4 → 4 < n + k → (∀ j, j < t → τ.2.1 2 (4 + j) = nI (f j) ∧ τ.2.1 3 (4 + j) = nI (g j)) → (∀ j, j < t → j < k → τ.2.1 2 j = nI (f j) ∧ τ.2.1 3 j = nI (g j)) → ∃ τ', F_mX11_drum_31 n (nI k) τ = (bd (F_mX11_spots τ') fun r4 σ_r4 => (if (σ_r4.1 12) ≤ r4 then (F_mX11_drum_91 σ_r4) else (F_mX11_drum_91 (sI (sI σ_r4 12 0) 13 0)))) ∧ fr1 [] [2, 3] τ τ' ∧ ∀ j, j < t → τ'.2.1 2 j = nI (f j) ∧ τ'.2.1 3 j = nI (g j) := by
  intro n
  induction n with
  | zero => intro k τ h1 h2; omega
  | succ n ih =>
    intro k τ hk hn h8 h4
    unfold F_mX11_drum_31
    by_cases e : k = 4
    · subst e
      rw [if_pos (show (4 : Int32) ≤ nI 4 from nI_le (a := 4) (Nat.le_refl _) (by omega))]
      exact ⟨τ, rfl, fr1.rf, fun j hj => h4 j hj (by omega)⟩
    · rw [if_neg (show ¬ (4 : Int32) ≤ nI k from nI_ge (b := 4) (by omega) (by omega)), show (4 : Int32) + nI k = nI (4 + k) from nI_add 4 k, if_pos (ib_nI (by omega) (by omega)), if_pos (ib_nI (by omega) (by omega)), nI_clamp (by omega), nI_clamp (by omega), nI_1]
      have f1 : fr1 [] [2, 3] τ (sA (sA τ 2 (upd (τ.2.1 2) k (τ.2.1 2 (4 + k)))) 3 (upd (τ.2.1 3) k (τ.2.1 3 (4 + k)))) := (fr1.rf.sA (by decide)).sA (by decide)
      obtain ⟨τ', a1, a2, a3⟩ := ih (k + 1) (sA (sA τ 2 (upd (τ.2.1 2) k (τ.2.1 2 (4 + k)))) 3 (upd (τ.2.1 3) k (τ.2.1 3 (4 + k)))) (by omega) (by omega) (fun j hj => by
        show upd (τ.2.1 2) k (τ.2.1 2 (4 + k)) (4 + j) = _ ∧ upd (τ.2.1 3) k (τ.2.1 3 (4 + k)) (4 + j) = _
        rw [u_is, u_is, if_neg (by omega), if_neg (by omega)]
        exact h8 j hj) (fun j hj hjk => by
        show upd (τ.2.1 2) k (τ.2.1 2 (4 + k)) j = _ ∧ upd (τ.2.1 3) k (τ.2.1 3 (4 + k)) j = _
        rw [u_is, u_is]
        by_cases q : j = k
        · rw [if_pos q, if_pos q, ← q]; exact h8 j hj
        · rw [if_neg q, if_neg q]; exact h4 j hj (by omega))
      exact ⟨τ', a1, f1.tr a2, a3⟩
def qD (q : Ab) (w t c en : Nat) (f g : Nat → Nat) : Ab := aG (aG (aI (aI (aI (aI (aF (aF (aF (aN (aN (aN (aN (aN q 0 0) 1 w) 2 t) 3 c) 4 en) 0 f) 1 g) 2 (fsp w t g)) 0 0) 1 (-1)) 2 0) 3 0) 2 (fun _ => 0)) 3 (fun _ => 0)
theorem qD_ok {q : Ab} (hq : OKq q) {w t c en : Nat} {f g : Nat → Nat} (hd : DOK w t f g) (hP : POK t g c en) : OKq (qD q w t c en f g) := by
  refine ⟨Nat.zero_le _, hd, hP, fsp_ok hd hP.2.1, fun s _ => Or.inl rfl, fun k _ => ⟨Or.inl rfl, fun z => absurd (show (0 : Int32) = 1 from z) (by decide)⟩, hq.2.2.2.2.2.2.1, Or.inl rfl, fun _ => rfl, fun z => absurd (show (0 : Int32) = 1 from z) (by decide)⟩
theorem AX_qD {q : Ab} {w t c en : Nat} {f g : Nat → Nat} {σ σ' : St} (h : AX q σ) (hf : fr1 [0, 1, 2, 3, 4, 5, 6, 7, 8, 9, 10, 11, 12, 14, 15, 17, 23, 30] [4, 5, 8, 9, 16, 19, 20, 21, 22, 23, 24, 26, 27, 28, 29, 30, 36] σ σ') (h0 : σ'.1 0 = 0) (h5 : σ'.1 5 = 0) (h6 : σ'.1 6 = -1) (hD : XD w t f g σ') (h11 : σ'.1 11 = nI c) (h12 : σ'.1 12 = nI en) (hcc : c ≤ q.1 3) (hX : XL w f c (fsp w t g) (fun _ => 0) σ') (h36 : ∀ k, k < 4 → σ'.2.1 36 k = 0) (h23 : σ'.1 23 = 0) (h30 : σ'.1 30 = 0) : AX (qD q w t c en f g) σ' := by
  have i : ∀ k, k ∉ [0, 1, 2, 3, 4, 5, 6, 7, 8, 9, 10, 11, 12, 14, 15, 17, 23, 30] → σ'.1 k = σ.1 k := fun k hk => hf.1 k hk
  have a : ∀ k, k ∉ [4, 5, 8, 9, 16, 19, 20, 21, 22, 23, 24, 26, 27, 28, 29, 30, 36] → σ'.2.1 k = σ.2.1 k := fun k hk => hf.2 k hk
  obtain ⟨h1, -, h3, -, -, -, h7⟩ := h
  refine ⟨⟨h0, ?_, h5, h6⟩, hD, ⟨h11, h12, fun n hn => ?_⟩, hX, ⟨h36, fun z => absurd (show (0 : Int32) = 1 from z) (by decide), fun z => absurd (show (0 : Int32) = 1 from z) (by decide), fun z => absurd (show (0 : Int32) = 1 from z) (by decide), fun z => absurd (show (0 : Int32) = 1 from z) (by decide)⟩, ⟨h23, h30, fun z => absurd (show (0 : Int32) = 1 from z) (by decide)⟩, ?_⟩
  · rw [a 2 (by decide)]; exact h1.2.1
  · have hn' : n < c := hn
    rw [a 11 (by decide)]; exact h3.2.2 n (by omega)
  · show XJ (q.1 5) (q.2.1 3) (q.2.1 4) σ'
    unfold XJ at h7 ⊢
    rw [i 32 (by decide), a 57 (by decide), a 58 (by decide), a 59 (by decide)]
    exact h7
theorem AM_qD {q : Ab} {w t c en : Nat} {f g : Nat → Nat} {τ τ' : St} (h : AM q τ) (hf : fr1 [0, 1, 2, 3, 4, 5, 6, 7, 8, 9, 10, 11, 12, 13, 14, 15, 23] [2, 3, 4, 5, 7, 8, 9, 10, 11, 12, 13, 27] τ τ') (h0 : τ'.1 0 = 0) (h6 : τ'.1 6 = 0) (h7 : τ'.1 7 = -1) (hD : MD w t f g τ') (h12 : τ'.1 12 = nI c) (h13 : τ'.1 13 = nI en) (hcc : c ≤ q.1 3) (hL : ML c (fsp w t g) (fun _ => 0) τ') (h27 : ∀ k, k < 4 → τ'.2.1 27 k = 0) (h23 : τ'.1 23 = 0) : AM (qD q w t c en f g) τ' := by
  have i : ∀ k, k ∉ [0, 1, 2, 3, 4, 5, 6, 7, 8, 9, 10, 11, 12, 13, 14, 15, 23] → τ'.1 k = τ.1 k := fun k hk => hf.1 k hk
  have a : ∀ k, k ∉ [2, 3, 4, 5, 7, 8, 9, 10, 11, 12, 13, 27] → τ'.2.1 k = τ.2.1 k := fun k hk => hf.2 k hk
  obtain ⟨h1, -, h3, -, -, -, h7'⟩ := h
  refine ⟨⟨h0, ?_, h6, h7⟩, hD, ⟨h12, h13, fun n hn => ?_⟩, hL, fun k hk => ⟨h27 k hk, fun z => absurd (show (0 : Int32) = 1 from z) (by decide)⟩, ⟨h23, fun z => absurd (show (0 : Int32) = 1 from z) (by decide)⟩, ?_⟩
  · rw [a 1 (by decide)]; exact h1.2.1
  · have hn' : n < c := hn
    rw [a 6 (by decide)]; exact h3.2.2 n (by omega)
  · show MJ (q.1 5) (q.2.1 3) (q.2.1 4) τ'
    unfold MJ at h7' ⊢
    rw [i 25 (by decide), a 31 (by decide), a 32 (by decide)]
    exact h7'
theorem api_drum : API2 F_xX10_drum F_mX11_drum := by
  intro q σ τ hq hX hM
  have hL := hq.1
  obtain ⟨σ1, τ1, a1, a2, a3, a4, a5, a6, a7, a8, a9, a10⟩ := b_begin hL hX.1 hM.1
  have hR : RP (q.2.2.2 0) (q.1 0) (tokF (q.2.2.2 0) (q.1 0) 0) (sI σ1 10 0) τ1 := ⟨a3.1, a3.2.1, a3.2.2.1, a3.2.2.2.1, a3.2.2.2.2⟩
  have eX : F_xX10_drum σ = (bd (bd (F_xX2_readWords (sI σ1 10 0)) fun r6 σ_r6 => (if r6 = 0 then (some (0, σ_r6)) else (bd (F_xX2_readTrack σ_r6) fun r8 σ_r8 => (if r8 = 0 then (some (0, σ_r8)) else (F_xX2_read_33 FU 1 σ_r8))))) fun r3 σ_r3 => (if r3 = 0 then (some ((-1), (sI σ_r3 0 0))) else (bv (F_xX1_copyFrom (sI σ_r3 0 0)) fun σ_r5 => (bd (F_xX1_countSpots σ_r5) fun r6 σ_r6 => (if (σ_r6.1 11) ≤ r6 then (F_xX10_drum_60 σ_r6) else (bv (F_xX5_clear σ_r6) fun σ_r8 => (F_xX10_drum_60 σ_r8))))))) := by
    unfold F_xX10_drum F_xX2_read
    rw [a1, bv_is]
  have eM : F_mX11_drum τ = (bd (F_mX11_readDrum τ1) fun r9 σ_r9 => (if r9 = 0 then (some ((-1), σ_r9)) else (F_mX11_drum_31 FU 0 (sI (sI σ_r9 8 (σ_r9.1 10)) 9 (σ_r9.1 11))))) := by
    unfold F_mX11_drum
    rw [a2, bv_is]
  have fX0 : fr1 [0, 1, 2, 3, 4, 5, 6, 9, 10, 14, 15] [8, 9, 16, 19, 20, 21, 22, 23, 24] σ (sI σ1 10 0) := (a4.wk (by decide) (by decide)).sI (by decide)
  rw [eX, eM]
  rcases b_read hL hR rfl (σ0 := sI σ1 10 0) (τ0 := τ1) fr1.rf ⟨fr1.rf, fun k _ => ⟨rfl, rfl⟩⟩ with ⟨k, s, σ2, τ2, e1, e2, e3, e4, e5, e6, e7, e8⟩ | ⟨w, t, f, g, σ2, τ2, e1, e2, e3, e4, e5, e6, e7⟩
  · refine ⟨-1, qF q k s, sI σ2 0 0, τ2, by rw [e1, bd_is, if_pos rfl], by rw [e2, bd_is, if_pos rfl], qF_ok hq k s, ?_, ?_⟩
    · exact AX_fail hX (fr1.sI (fX0.tr (fr1.wk e3 (by decide) (by decide))) (by decide)) rfl e5 e6
    · refine AM_fail hq hM ((a5.1.wk (by decide) (by decide)).tr (fr1.wk e4.1 (by decide) (by decide))) (fun k hk => ?_) ((e4.1.1 0 (by decide)).trans a10) e7 e8
      have := e4.2 k hk
      rw [this.1, this.2, a5.1.2 2 (List.not_mem_nil), a5.1.2 3 (List.not_mem_nil)]
      exact ⟨rfl, rfl⟩
  · obtain ⟨d1, d2, d3, d4, d5, d6, dA⟩ := e3
    have hd : DOK w t f g := ⟨d5, d6, e4, e5, fun k hk => by
      have := dA k hk
      exact ⟨this.2.2.2.2.1, this.2.2.2.2.2.1, this.2.2.2.2.2.2.1, this.2.2.2.2.2.2.2⟩⟩
    -- the class
    have fX2 : fr1 [0, 1, 2, 3, 4, 5, 6, 7, 8, 9, 10, 11, 12, 14, 15, 17, 23, 30] [4, 5, 8, 9, 16, 19, 20, 21, 22, 23, 24, 26, 27, 28, 29, 30, 36] σ (sI (sI (sI σ2 0 0) 7 (σ2.1 9)) 8 (σ2.1 10)) := fr1.sI (fr1.sI (fr1.sI ((fX0.wk (by decide) (by decide)).tr (fr1.wk e6 (by decide) (by decide))) (by decide)) (by decide)) (by decide)
    obtain ⟨σ3, c1, c2, c3⟩ := x_copy (w := w) e5 FU 0 (sI (sI (sI σ2 0 0) 7 (σ2.1 9)) 8 (σ2.1 10)) (by omega) (by rw [FU_is]; omega) (fun j hj => ⟨(dA j hj).1, (dA j hj).2.1⟩) (fun j hj hjk => by omega)
    have fX3 := fX2.tr (c2.wk (by decide) (by decide))
    have hD3 : XD w t f g σ3 := ⟨(c2.1 7 (by decide)).trans d1, (c2.1 8 (by decide)).trans d3, c3⟩
    have g11 : σ3.1 11 = nI (q.1 3) := (c2.1 11 (by decide)).trans ((e6.1 11 (by decide)).trans ((a4.1 11 (by decide)).trans hX.2.2.1.1))
    have g12 : σ3.1 12 = nI (q.1 4) := (c2.1 12 (by decide)).trans ((e6.1 12 (by decide)).trans ((a4.1 12 (by decide)).trans hX.2.2.1.2.1))
    have g0 : σ3.1 0 = 0 := (c2.1 0 (by decide)).trans rfl
    have g5 : σ3.1 5 = 0 := (c2.1 5 (by decide)).trans ((e6.1 5 (by decide)).trans a6)
    have g6 : σ3.1 6 = -1 := (c2.1 6 (by decide)).trans ((e6.1 6 (by decide)).trans a7)
    have eX3 : F_xX1_copyFrom (sI σ2 0 0) = some σ3 := c1
    -- the reference
    have fM2 : fr1 [0, 1, 2, 3, 4, 5, 6, 7, 8, 9, 10, 11, 12, 13, 14, 15, 23] [2, 3, 4, 5, 7, 8, 9, 10, 11, 12, 13, 27] τ (sI (sI τ2 8 (τ2.1 10)) 9 (τ2.1 11)) := fr1.sI (fr1.sI ((a5.1.wk (by decide) (by decide)).tr (fr1.wk e7.1 (by decide) (by decide))) (by decide)) (by decide)
    obtain ⟨τ3, m1, m2, m3⟩ := m_copy e5 FU 0 (sI (sI τ2 8 (τ2.1 10)) 9 (τ2.1 11)) (by omega) (by rw [FU_is]; omega) (fun j hj => ⟨(dA j hj).2.2.1, (dA j hj).2.2.2.1⟩) (fun j hj hjk => by omega)
    have fM3 := fM2.tr (m2.wk (by decide) (by decide))
    have hM3 : MD w t f g τ3 := ⟨(m2.1 8 (by decide)).trans d2, (m2.1 9 (by decide)).trans d4, m3⟩
    have t12 : τ3.1 12 = nI (q.1 3) := (m2.1 12 (by decide)).trans ((e7.1.1 12 (by decide)).trans ((a5.1.1 12 (by decide)).trans hM.2.2.1.1))
    have t13 : τ3.1 13 = nI (q.1 4) := (m2.1 13 (by decide)).trans ((e7.1.1 13 (by decide)).trans ((a5.1.1 13 (by decide)).trans hM.2.2.1.2.1))
    have t0 : τ3.1 0 = 0 := (m2.1 0 (by decide)).trans ((e7.1.1 0 (by decide)).trans a10)
    have t6 : τ3.1 6 = 0 := (m2.1 6 (by decide)).trans ((e7.1.1 6 (by decide)).trans a8)
    have t7 : τ3.1 7 = -1 := (m2.1 7 (by decide)).trans ((e7.1.1 7 (by decide)).trans a9)
    have hc40 : q.1 3 ≤ 40 := hq.2.2.1.1
    have hns : nsp g t ≤ 128 := by
      have := nsp_le hd t (Nat.le_refl _)
      have := dw_lt hd
      omega
    -- both end alike
    have fin : ∀ (c en : Nat), POK t g c en → c ≤ q.1 3 → ∀ σ4 τ4 : St, fr1 [0, 1, 2, 3, 4, 5, 6, 7, 8, 9, 10, 11, 12, 14, 15, 17, 23, 30] [4, 5, 8, 9, 16, 19, 20, 21, 22, 23, 24, 26, 27, 28, 29, 30, 36] σ σ4 → XD w t f g σ4 → σ4.1 11 = nI c → σ4.1 12 = nI en → σ4.1 0 = 0 → σ4.1 5 = 0 → σ4.1 6 = -1 → fr1 [0, 1, 2, 3, 4, 5, 6, 7, 8, 9, 10, 11, 12, 13, 14, 15, 23] [2, 3, 4, 5, 7, 8, 9, 10, 11, 12, 13, 27] τ τ4 → MD w t f g τ4 → τ4.1 12 = nI c → τ4.1 13 = nI en → τ4.1 0 = 0 → τ4.1 6 = 0 → τ4.1 7 = -1 → ∃ (r : Int32) (q' : Ab) (σ' τ' : St), F_xX10_drum_60 σ4 = some (r, σ') ∧ F_mX11_drum_91 τ4 = some (r, τ') ∧ OKq q' ∧ AX q' σ' ∧ AM q' τ' := by
      intro c en hP hcq σ4 τ4 k1 k2 k3 k4 k5 k6 k7 l1 l2 l3 l4 l5 l6 l7
      obtain ⟨σ5, n1, n2, n3, n4, n5, n6⟩ := x_afresh hd hP.1 hP.2.1 k2 k3
      obtain ⟨τ5, o1, o2, o3, o4, o5⟩ := m_layFirst hd hP.1 hP.2.1 l2 l3
      have hD5 := k2.fr n2 (by decide) (by decide) (by decide) (by decide)
      have hM5 := l2.fr o2 (by decide) (by decide) (by decide) (by decide)
      refine ⟨nI (nsp g t), qD q w t c en f g, σ5, τ5, ?_, ?_, qD_ok hq hd hP, ?_, ?_⟩
      · unfold F_xX10_drum_60
        rw [n1, bv_is, x_spots hd hD5, bd_is]
      · unfold F_mX11_drum_91
        rw [o1, bv_is, m_spots hd hM5, bd_is]
      · exact AX_qD hX (k1.tr (n2.wk (by decide) (by decide))) ((n2.1 0 (by decide)).trans k5) ((n2.1 5 (by decide)).trans k6) ((n2.1 6 (by decide)).trans k7) hD5 ((n2.1 11 (by decide)).trans k3) ((n2.1 12 (by decide)).trans k4) hcq n3 n4 n5 n6
      · exact AM_qD hM (l1.tr (o2.wk (by decide) (by decide))) ((o2.1 0 (by decide)).trans l5) ((o2.1 6 (by decide)).trans l6) ((o2.1 7 (by decide)).trans l7) hM5 ((o2.1 12 (by decide)).trans l3) ((o2.1 13 (by decide)).trans l4) hcq o3 o4 o5
    rw [e1, bd_is, if_neg (show ¬ (1 : Int32) = 0 by decide), eX3, bv_is, x_spots hd hD3, bd_is, g11, e2, bd_is, if_neg (show ¬ (1 : Int32) = 0 by decide), show F_mX11_drum_31 FU 0 (sI (sI τ2 8 (τ2.1 10)) 9 (τ2.1 11)) = _ from m1, m_spots hd hM3, bd_is, t12]
    by_cases hcn : q.1 3 ≤ nsp g t
    · rw [if_pos (nI_le hcn (by omega)), if_pos (nI_le hcn (by omega))]
      exact fin (q.1 3) (q.1 4) ⟨hc40, hcn, hq.2.2.1.2.2⟩ (Nat.le_refl _) σ3 τ3 fX3 hD3 g11 g12 g0 g5 g6 fM3 hM3 t12 t13 t0 t6 t7
    · have hge : ¬ nI (q.1 3) ≤ nI (nsp g t) := nI_ge (by omega) (by omega)
      rw [if_neg hge, if_neg hge]
      unfold F_xX5_clear
      rw [bv_is]
      exact fin 0 0 ⟨by omega, Nat.zero_le _, Or.inr ⟨rfl, rfl⟩⟩ (Nat.zero_le _) (sI (sI σ3 11 0) 12 0) (sI (sI τ3 12 0) 13 0) (fr1.sI (fr1.sI fX3 (by decide)) (by decide)) ⟨hD3.1, hD3.2.1, hD3.2.2⟩ rfl rfl g0 g5 g6 (fr1.sI (fr1.sI fM3 (by decide)) (by decide)) ⟨hM3.1, hM3.2.1, hM3.2.2⟩ rfl rfl t0 t6 t7
