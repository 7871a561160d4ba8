/-! run -/
/-- the fields of a name in a report -/
def fld (S : Sm) (m val : Nat → Int32) (sN : Nat → Nat) (n k : Nat) : Int32 :=
  if k = 0 then nI (S.2.2.1 n) else if k = 1 then nI (S.2.2.2.1 n) else if k = 2 then nI (S.2.2.2.2.1 n) else if k = 3 then m n else if k = 4 then sf4 S n else if k = 5 then sf5 S n else if k = 6 then (if m n = val n then 0 else 1) else shI (sN n)
def rfF (S : Sm) (m val : Nat → Int32) (sN : Nat → Nat) : Nat → Int32 := fun j => fld S m val sN (j / 8) (j % 8)
theorem rfF_at (S : Sm) (m val : Nat → Int32) (sN : Nat → Nat) (n : Nat) {k : Nat} (hk : k < 8) : rfF S m val sN (8 * n + k) = fld S m val sN n k := by
  unfold rfF
  rw [show (8 * n + k) / 8 = n by omega, show (8 * n + k) % 8 = k by omega]
def rrF (e : Nat) (m : Ms) (S : Sm) : Nat → Int32 := fun k => if k = 0 then nI e else if k = 1 then m.2.1 else if k = 2 then nI m.2.2.1 else if k = 3 then nI m.2.2.2.1 else if k = 4 then nI S.1 else nI S.2.1
def aR (q : Ab) (nd : Int32) (rr pr rf : Nat → Int32) : Ab := aG (aG (aG (aI (aI q 2 1) 3 nd) 4 rr) 5 pr) 6 rf
theorem AX_run {q : Ab} {σ σ' : St} {nd : Int32} {rr pr rf : Nat → Int32} (h : AX q σ) (hf : fr1 [18, 19, 20, 21, 22, 23, 24, 25, 26, 27, 28, 29, 30] [38, 39, 40, 42, 43, 44, 45, 46, 47, 48, 49, 50, 51] σ σ') (hX : XR (q.1 3) 1 nd rr pr rf σ') : AX (aR q nd rr pr rf) σ' := by
  have i : ∀ k, k ∉ [18, 19, 20, 21, 22, 23, 24, 25, 26, 27, 28, 29, 30] → σ'.1 k = σ.1 k := hf.1
  have a : ∀ k, k ∉ [38, 39, 40, 42, 43, 44, 45, 46, 47, 48, 49, 50, 51] → σ'.2.1 k = σ.2.1 k := hf.2
  obtain ⟨h1, h2, h3, h4, h5, -, h7⟩ := h
  refine ⟨?_, ?_, ?_, ?_, ?_, hX, ?_⟩
  · unfold XT at h1 ⊢
    rw [i 0 (by decide), a 2 (by decide), i 5 (by decide), i 6 (by decide)]
    exact h1
  · unfold XD at h2 ⊢
    rw [i 7 (by decide), i 8 (by decide), a 4 (by decide), a 5 (by decide)]
    exact h2
  · unfold XP at h3 ⊢
    rw [i 11 (by decide), i 12 (by decide), a 11 (by decide)]
    exact h3
  · unfold XL at h4 ⊢
    rw [i 17 (by decide), a 26 (by decide), a 27 (by decide), a 28 (by decide), a 29 (by decide), a 30 (by decide)]
    exact h4
  · unfold XK at h5 ⊢
    rw [a 36 (by decide), a 32 (by decide), a 33 (by decide), a 34 (by decide), a 35 (by decide)]
    exact h5
  · unfold XJ at h7 ⊢
    rw [i 32 (by decide), a 57 (by decide), a 58 (by decide), a 59 (by decide)]
    exact h7
theorem AM_run {q : Ab} {τ τ' : St} {nd : Int32} {rr pr rf : Nat → Int32} (h : AM q τ) (hf : fr1 [16, 17, 18, 19, 20, 21, 22, 23, 24] [14, 15, 16, 17, 18, 19, 20, 21, 22, 23] τ τ') (hX : MR (q.1 3) 1 rr pr rf τ') : AM (aR q nd rr pr rf) τ' := by
  have i : ∀ k, k ∉ [16, 17, 18, 19, 20, 21, 22, 23, 24] → τ'.1 k = τ.1 k := hf.1
  have a : ∀ k, k ∉ [14, 15, 16, 17, 18, 19, 20, 21, 22, 23] → τ'.2.1 k = τ.2.1 k := hf.2
  obtain ⟨h1, h2, h3, h4, h5, -, h7⟩ := h
  refine ⟨?_, ?_, ?_, ?_, ?_, hX, ?_⟩
  · unfold MT at h1 ⊢
    rw [i 0 (by decide), a 1 (by decide), i 6 (by decide), i 7 (by decide)]
    exact h1
  · unfold MD at h2 ⊢
    rw [i 8 (by decide), i 9 (by decide), a 2 (by decide), a 3 (by decide)]
    exact h2
  · unfold MP at h3 ⊢
    rw [i 12 (by decide), i 13 (by decide), a 6 (by decide)]
    exact h3
  · unfold ML at h4 ⊢
    rw [a 7 (by decide), a 4 (by decide)]
    exact h4
  · unfold MK at h5 ⊢
    rw [a 27 (by decide), a 28 (by decide)]
    exact h5
  · unfold MJ at h7 ⊢
    rw [i 25 (by decide), a 31 (by decide), a 32 (by decide)]
    exact h7
theorem x_write {w : Nat} {rd : Nat → Nat} {c en : Nat} {val : Nat → Int32} {sp : Nat → Nat} (hc : c ≤ 40) (hen : en < c) (hr : ∀ n, n < c → 0 < rnF w rd sp n ∧ rnF w rd sp n ≤ 32) {σ : St} (hP : XP c en val σ) (hX : XS w rd c sp σ) (h18 : σ.1 18 = nI (rlen c 2000 (m0 val en))) (h19 : σ.1 19 = nI (rend c 2000 (m0 val en))) (hC : XC c (rms c 2000 (m0 val en)) σ) (hT : TR (σ.2.1 38) 0 (rev c 2000 (m0 val en))) :
    ∃ σ', F_xX7_write σ = some σ' ∧ fr1 [23, 24, 25, 26, 27, 28, 29, 30] [42, 43, 44, 45, 46, 47, 48, 49, 50, 51] σ σ' ∧ XR c 1 (nI (needN (sf4 (stL (phF w sp) (rnF w rd sp) (rev c 2000 (m0 val en)) 0 S0)) (sf5 (stL (phF w sp) (rnF w rd sp) (rev c 2000 (m0 val en)) 0 S0)) c c)) (rrF (rend c 2000 (m0 val en)) (rms c 2000 (m0 val en)) (stL (phF w sp) (rnF w rd sp) (rev c 2000 (m0 val en)) 0 S0)) (rms c 2000 (m0 val en)).2.2.2.2 (rfF (stL (phF w sp) (rnF w rd sp) (rev c 2000 (m0 val en)) 0 S0) (rms c 2000 (m0 val en)).1 val (shL c (sf4 (stL (phF w sp) (rnF w rd sp) (rev c 2000 (m0 val en)) 0 S0)) (sf5 (stL (phF w sp) (rnF w rd sp) (rev c 2000 (m0 val en)) 0 S0)) 40 (fun _ => 0))) σ' := by
  have hl := rev_len c 2000 (m0 val en)
  have hl2 := rlen_le c 2000 (m0 val en)
  have hev := rev_ok hc 2000 (m0 val en) hen
  have hSF := SFo.stL (ph := phF w sp) (rn := rnF w rd sp) (rev c 2000 (m0 val en)) 0 S0 hev (by omega) (SFo_0 c)
  have hF4 := hSF.FO4 (by omega)
  have hpc := rms_pc (c := c) 2000 (m0 val en)
  have hpc : (rms c 2000 (m0 val en)).2.2.2.1 ≤ 2000 := by
    have : (m0 val en).2.2.2.1 = 0 := rfl
    omega
  generalize hm : rms c 2000 (m0 val en) = m at *
  generalize hS : stL (phF w sp) (rnF w rd sp) (rev c 2000 (m0 val en)) 0 S0 = S at *
  unfold F_xX7_write
  have f0 : fr1 [23, 24, 25, 26, 27, 28, 29, 30] [42, 43, 44, 45, 46, 47, 48, 49, 50, 51] σ (sA (sI (sI (sI (sI (sI σ 23 1) 24 (σ.1 19)) 25 (σ.1 20)) 26 (σ.1 21)) 27 (σ.1 22)) 42 (va_cpy (σ.2.1 40) (σ.2.1 42) 0 0 100)) := (((((fr1.rf.sI (by decide)).sI (by decide)).sI (by decide)).sI (by decide)).sI (by decide)).sA (by decide)
  have e23 : (sA (sI (sI (sI (sI (sI σ 23 1) 24 (σ.1 19)) 25 (σ.1 20)) 26 (σ.1 21)) 27 (σ.1 22)) 42 (va_cpy (σ.2.1 40) (σ.2.1 42) 0 0 100)).1 23 = 1 := rfl
  have e24 : (sA (sI (sI (sI (sI (sI σ 23 1) 24 (σ.1 19)) 25 (σ.1 20)) 26 (σ.1 21)) 27 (σ.1 22)) 42 (va_cpy (σ.2.1 40) (σ.2.1 42) 0 0 100)).1 24 = σ.1 19 := rfl
  have e25 : (sA (sI (sI (sI (sI (sI σ 23 1) 24 (σ.1 19)) 25 (σ.1 20)) 26 (σ.1 21)) 27 (σ.1 22)) 42 (va_cpy (σ.2.1 40) (σ.2.1 42) 0 0 100)).1 25 = σ.1 20 := rfl
  have e26 : (sA (sI (sI (sI (sI (sI σ 23 1) 24 (σ.1 19)) 25 (σ.1 20)) 26 (σ.1 21)) 27 (σ.1 22)) 42 (va_cpy (σ.2.1 40) (σ.2.1 42) 0 0 100)).1 26 = σ.1 21 := rfl
  have e27 : (sA (sI (sI (sI (sI (sI σ 23 1) 24 (σ.1 19)) 25 (σ.1 20)) 26 (σ.1 21)) 27 (σ.1 22)) 42 (va_cpy (σ.2.1 40) (σ.2.1 42) 0 0 100)).1 27 = σ.1 22 := rfl
  have e42 : ∀ j, j < 100 → (sA (sI (sI (sI (sI (sI σ 23 1) 24 (σ.1 19)) 25 (σ.1 20)) 26 (σ.1 21)) 27 (σ.1 22)) 42 (va_cpy (σ.2.1 40) (σ.2.1 42) 0 0 100)).2.1 42 j = σ.2.1 40 j := fun j hj => by
    show va_cpy (σ.2.1 40) (σ.2.1 42) 0 0 100 j = _
    rw [pk_cpy_in (by omega) (by omega), show 0 + (j - 0) = j by omega]
  generalize sA (sI (sI (sI (sI (sI σ 23 1) 24 (σ.1 19)) 25 (σ.1 20)) 26 (σ.1 21)) 27 (σ.1 22)) 42 (va_cpy (σ.2.1 40) (σ.2.1 42) 0 0 100) = σ1 at f0 e23 e24 e25 e26 e27 e42 ⊢
  obtain ⟨σ2, a1, a2, a3⟩ := x_wr46 (m := m.1) (val := val) hc (fun s => F_xX7_write_55 1 (nI 40) s) (fun _ => rfl) FU 0 σ1 (by omega) (by rw [FU_is]; omega) (fun n hn => by rw [f0.2 39 (by decide)]; exact hC.1 n hn) (fun n hn => by rw [f0.2 11 (by decide)]; exact hP.2.2 n hn) (fun n _ hn => absurd hn (Nat.not_lt_zero _))
  rw [show F_xX7_write_55 FU 0 σ1 = _ from a1]
  rw [F_xX7_write_55, if_pos (show (40 : Int32) ≤ nI 40 by decide)]
  obtain ⟨g3, b3, c3⟩ := x_fill43 0 σ2
  rw [b3, bv_is]
  obtain ⟨g4, b4, c4⟩ := x_fill44 0 (sA σ2 43 g3)
  rw [b4, bv_is]
  obtain ⟨g5, b5, c5⟩ := x_fill45 0 (sA (sA σ2 43 g3) 44 g4)
  rw [b5, bv_is]
  obtain ⟨g8, b8, c8⟩ := x_fill48 (-1) (sA (sA (sA σ2 43 g3) 44 g4) 45 g5)
  rw [b8, bv_is]
  obtain ⟨g9, b9, c9⟩ := x_fill49 (-1) (sA (sA (sA (sA σ2 43 g3) 44 g4) 45 g5) 48 g8)
  rw [b9, bv_is]
  have f2 : fr1 [23, 24, 25, 26, 27, 28, 29, 30] [42, 43, 44, 45, 46, 47, 48, 49, 50, 51] σ σ2 := f0.tr (a2.wk (by decide) (by decide))
  have f3 : fr1 [28, 29] [43, 44, 45, 48, 49] σ2 (sI (sI (sA (sA (sA (sA (sA σ2 43 g3) 44 g4) 45 g5) 48 g8) 49 g9) 28 0) 29 0) := ((((((fr1.rf.sA (by decide)).sA (by decide)).sA (by decide)).sA (by decide)).sA (by decide)).sI (by decide)).sI (by decide)
  have f23 := f2.tr (f3.wk (by decide) (by decide))
  have hX0 : XSt c S0 (sI (sI (sA (sA (sA (sA (sA σ2 43 g3) 44 g4) 45 g5) 48 g8) 49 g9) 28 0) 29 0) := ⟨rfl, rfl, fun n hn => ⟨c3 n (by omega), c4 n (by omega), c5 n (by omega)⟩, fun n hn => ⟨c8 n hn, c9 n hn⟩⟩
  unfold F_xX7_countSteps
  obtain ⟨σ3, d1, d2, d3⟩ := x_cs12 (ph := phF w sp) (rn := rnF w rd sp) hc hr FU (rev c 2000 (m0 val en)) 0 S0 _ (fun n hn => by
    rw [f23.2 27 (by decide), f23.2 28 (by decide)]; exact ⟨(hX n hn).2.1, (hX n hn).2.2⟩) (by rw [f23.2 38 (by decide)]; exact hT) hev (by rw [f23.1 18 (by decide), h18, hl, Nat.zero_add]) (by omega) (by rw [FU_is]; omega) (by show 0 + _ < _; omega) hX0
  rw [show F_xX7_countSteps_12 FU 0 _ = _ from d1, bv_is]
  rw [hS] at d3
  unfold F_xX7_shareSpots
  obtain ⟨g0, b0, c0⟩ := x_fill50 (-1) σ3
  rw [b0, bv_is]
  have f4 : fr1 [30] [50, 51] σ3 (sI (sA σ3 50 g0) 30 0) := (fr1.rf.sA (by decide)).sI (by decide)
  obtain ⟨σ4, k1, k2, k3, k4⟩ := x_sh15 hc hF4 40 FU 40 (fun _ => 0) 0 (sI (sA σ3 50 g0) 30 0) (by omega) (Nat.le_trans (fb_ct_le _ _) hc) (Nat.le_trans (fb_ct_le _ _) hc) (by rw [FU_is]; omega) SI_0 (fun _ _ => rfl) (fun _ _ => Nat.le_refl _) (Nat.zero_le _) (fun k hk => ⟨(d3.2.2.2 k hk).1, (d3.2.2.2 k hk).2, c0 k hk⟩) rfl
  rw [show F_xX7_shareSpots_15 FU 0 (sI (sA σ3 50 g0) 30 0) = _ from k1, bv_is]
  have f24 := f4.tr k2
  have f34 : fr1 [28, 29, 30] [43, 44, 45, 48, 49, 50, 51] σ2 σ4 := ((f3.tr d2).wk (by decide) (by decide) : fr1 [28, 29, 30] [43, 44, 45, 48, 49, 50, 51] σ2 σ3).tr (f24.wk (by decide) (by decide))
  have f14 : fr1 [28, 29, 30] [43, 44, 45, 46, 47, 48, 49, 50, 51] σ1 σ4 := (a2.wk (by decide) (by decide) : fr1 [28, 29, 30] [43, 44, 45, 46, 47, 48, 49, 50, 51] σ1 σ2).tr (f34.wk (by decide) (by decide))
  refine ⟨σ4, rfl, f2.tr (f34.wk (by decide) (by decide)), (f14.1 23 (by decide)).trans e23, k4, fun _ => ⟨⟨?_, ?_, ?_, ?_, ?_, ?_⟩, fun j hj hj2 => ?_, fun n hn => ⟨?_, ?_, ?_, ?_, ?_, ?_, ?_, ?_⟩⟩⟩
  · rw [f14.1 24 (by decide), e24, h19]; rfl
  · rw [f14.1 25 (by decide), e25, hC.2.1]; rfl
  · rw [f14.1 26 (by decide), e26, hC.2.2.1]; rfl
  · rw [f14.1 27 (by decide), e27, hC.2.2.2.1]; rfl
  · rw [f24.1 28 (by decide), d3.1]; rfl
  · rw [f24.1 29 (by decide), d3.2.1]; rfl
  · rw [f14.2 42 (by decide), e42 j hj]
    refine hC.2.2.2.2 j hj ?_
    have hj3 : nI j < nI m.2.2.2.1 := hj2
    exact (nI_ltI (by omega) (by omega)).mp hj3
  · rw [rfF_at _ _ _ _ n (k := 0) (by omega), f24.2 43 (by decide)]; exact (d3.2.2.1 n hn).1
  · rw [rfF_at _ _ _ _ n (k := 1) (by omega), f24.2 44 (by decide)]; exact (d3.2.2.1 n hn).2.1
  · rw [rfF_at _ _ _ _ n (k := 2) (by omega), f24.2 45 (by decide)]; exact (d3.2.2.1 n hn).2.2
  · rw [rfF_at _ _ _ _ n (k := 3) (by omega), f34.2 46 (by decide)]; exact (a3 n hn).1
  · rw [rfF_at _ _ _ _ n (k := 4) (by omega)]; exact (k3 n (by omega)).1
  · rw [rfF_at _ _ _ _ n (k := 5) (by omega)]; exact (k3 n (by omega)).2.1
  · rw [rfF_at _ _ _ _ n (k := 6) (by omega), f34.2 47 (by decide)]; exact (a3 n hn).2
  · rw [rfF_at _ _ _ _ n (k := 7) (by omega)]; exact (k3 n (by omega)).2.2
theorem m_81 : ∀ (f k : Nat) (τ : St), k ≤ 100 → 100 < f + k → (∀ j, j < k → τ.2.1 22 j = τ.2.1 15 j) → ∃ g, F_mX11_run_81 f (nI k) τ = F_mX11_run_115 FU 0 (sI (sA τ 22 g) 24 (τ.1 12)) ∧ ∀ j, j < 100 → g j = τ.2.1 15 j := by
  intro f
  induction f with
  | zero => intro k τ h1 h2; omega
  | succ f ih =>
    intro k τ h1 h2 h
    rw [F_mX11_run_81]
    by_cases e : k = 100
    · rw [if_pos (show (100 : Int32) ≤ nI k by rw [e]; decide)]
      refine ⟨τ.2.1 22, ?_, fun j hj => h j (by omega)⟩
      congr 1
      unfold sA
      rw [vf_self]
    · rw [if_neg (show ¬ (100 : Int32) ≤ nI k from nI_ge (a := k) (b := 100) (by omega) (by omega)), if_pos (ib_nI (by omega) (by omega)), nI_clamp (by omega), ← nI_succ]
      obtain ⟨g, a1, a2⟩ := ih (k + 1) (sA τ 22 (upd (τ.2.1 22) k (τ.2.1 15 k))) (by omega) (by omega) (fun j hj => by
        show upd (τ.2.1 22) k (τ.2.1 15 k) j = τ.2.1 15 j
        rw [u_is]
        by_cases e2 : j = k
        · rw [if_pos e2, e2]
        · rw [if_neg e2]; exact h j (by omega))
      refine ⟨g, ?_, a2⟩
      rw [a1]
      congr 2
      unfold sA
      rw [vf2]
theorem m_115 {c : Nat} (hc : c ≤ 40) {S : Sm} {m val : Nat → Int32} : ∀ (f k : Nat) (τ : St), k ≤ c → c < f + k → τ.1 12 = nI c → (∀ n, n < c → τ.2.1 14 n = m n ∧ τ.2.1 6 n = val n ∧ τ.2.1 16 n = nI (S.2.2.1 n) ∧ τ.2.1 17 n = nI (S.2.2.2.1 n) ∧ τ.2.1 18 n = nI (S.2.2.2.2.1 n) ∧ τ.2.1 19 n = sf4 S n ∧ τ.2.1 20 n = sf5 S n) → (∀ n, n < k → ∀ j, j < 8 → τ.2.1 23 (8 * n + j) = fld S m val (fun _ => 0) n j) →
    ∃ g, F_mX11_run_115 f (nI k) τ = bv (F_mX11_share (sA τ 23 g)) (fun s => some (s.1 16, s)) ∧ ∀ n, n < c → ∀ j, j < 8 → g (8 * n + j) = fld S m val (fun _ => 0) n j := by
  intro f
  induction f with
  | zero => intro k τ h1 h2; omega
  | succ f ih =>
    intro k τ h1 h2 h12 hN h23
    rw [F_mX11_run_115, h12]
    by_cases e : c ≤ k
    · rw [if_pos (nI_le e (by omega))]
      refine ⟨τ.2.1 23, ?_, fun n hn => h23 n (by omega)⟩
      congr 2
      unfold sA
      rw [vf_self]
    · obtain ⟨n1, n2, n3, n4, n5, n6, n7⟩ := hN k (by omega)
      have k8 : ∀ j : Nat, (8 : Int32) * nI k + nI j = nI (8 * k + j) := m8k (by omega)
      rw [if_neg (nI_ge (by omega) (by omega)), if_pos (ib_nI (by omega) (by omega)), show (8 : Int32) * nI k + 1 = nI (8 * k + 1) from k8 1, show (8 : Int32) * nI k + 2 = nI (8 * k + 2) from k8 2, show (8 : Int32) * nI k + 3 = nI (8 * k + 3) from k8 3, show (8 : Int32) * nI k + 4 = nI (8 * k + 4) from k8 4, show (8 : Int32) * nI k + 5 = nI (8 * k + 5) from k8 5, show (8 : Int32) * nI k + 6 = nI (8 * k + 6) from k8 6, m8 (by omega), if_pos (ib_nI (by omega) (by omega)), if_pos (ib_nI (by omega) (by omega)), if_pos (ib_nI (by omega) (by omega)), if_pos (ib_nI (by omega) (by omega)), if_pos (ib_nI (by omega) (by omega)), if_pos (ib_nI (by omega) (by omega)), nI_clamp (n := k) (by omega), nI_clamp (n := 8 * k) (by omega), nI_clamp (n := 8 * k + 1) (by omega), nI_clamp (n := 8 * k + 2) (by omega), nI_clamp (n := 8 * k + 3) (by omega), nI_clamp (n := 8 * k + 4) (by omega), nI_clamp (n := 8 * k + 5) (by omega), n1, n2, n3, n4, n5, n6, n7]
      have go : ∀ v : Int32, v = (if m k = val k then 0 else 1) → ∃ g, F_mX11_run_238 (F_mX11_run_115 f) (nI k) (nI (8 * k)) (nI (8 * k + 6)) v (sA τ 23 (upd (upd (upd (upd (upd (upd (τ.2.1 23) (8 * k) (nI (S.2.2.1 k))) (8 * k + 1) (nI (S.2.2.2.1 k))) (8 * k + 2) (nI (S.2.2.2.2.1 k))) (8 * k + 3) (m k)) (8 * k + 4) (sf4 S k)) (8 * k + 5) (sf5 S k))) = bv (F_mX11_share (sA τ 23 g)) (fun s => some (s.1 16, s)) ∧ ∀ n, n < c → ∀ j, j < 8 → g (8 * n + j) = fld S m val (fun _ => 0) n j := by
        intro v hv
        unfold F_mX11_run_238
        rw [show nI (8 * k) + 7 = nI (8 * k + 7) from by rw [show (7 : Int32) = nI 7 from rfl, nI_add], if_pos (ib_nI (by omega) (by omega)), if_pos (ib_nI (by omega) (by omega)), nI_clamp (n := 8 * k + 6) (by omega), nI_clamp (n := 8 * k + 7) (by omega), ← nI_succ]
        obtain ⟨g, a1, a2⟩ := ih (k + 1) (sA τ 23 (upd (upd (upd (upd (upd (upd (upd (upd (τ.2.1 23) (8 * k) (nI (S.2.2.1 k))) (8 * k + 1) (nI (S.2.2.2.1 k))) (8 * k + 2) (nI (S.2.2.2.2.1 k))) (8 * k + 3) (m k)) (8 * k + 4) (sf4 S k)) (8 * k + 5) (sf5 S k)) (8 * k + 6) v) (8 * k + 7) (-1))) (by omega) (by omega) h12 hN (fun n hn j hj => by
          show upd (upd (upd (upd (upd (upd (upd (upd (τ.2.1 23) (8 * k) (nI (S.2.2.1 k))) (8 * k + 1) (nI (S.2.2.2.1 k))) (8 * k + 2) (nI (S.2.2.2.2.1 k))) (8 * k + 3) (m k)) (8 * k + 4) (sf4 S k)) (8 * k + 5) (sf5 S k)) (8 * k + 6) v) (8 * k + 7) (-1) (8 * n + j) = _
          rw [u_is, u_is, u_is, u_is, u_is, u_is, u_is, u_is]
          by_cases e2 : n = k
          · subst e2
            unfold fld
            rcases (show j = 0 ∨ j = 1 ∨ j = 2 ∨ j = 3 ∨ j = 4 ∨ j = 5 ∨ j = 6 ∨ j = 7 by omega) with rfl | rfl | rfl | rfl | rfl | rfl | rfl | rfl
            · rw [if_neg (by omega), if_neg (by omega), if_neg (by omega), if_neg (by omega), if_neg (by omega), if_neg (by omega), if_neg (by omega), if_pos (by omega), if_pos rfl]
            · rw [if_neg (by omega), if_neg (by omega), if_neg (by omega), if_neg (by omega), if_neg (by omega), if_neg (by omega), if_pos rfl, if_neg (by decide), if_pos rfl]
            · rw [if_neg (by omega), if_neg (by omega), if_neg (by omega), if_neg (by omega), if_neg (by omega), if_pos rfl, if_neg (by decide), if_neg (by decide), if_pos rfl]
            · rw [if_neg (by omega), if_neg (by omega), if_neg (by omega), if_neg (by omega), if_pos rfl, if_neg (by decide), if_neg (by decide), if_neg (by decide), if_pos rfl]
            · rw [if_neg (by omega), if_neg (by omega), if_neg (by omega), if_pos rfl, if_neg (by decide), if_neg (by decide), if_neg (by decide), if_neg (by decide), if_pos rfl]
            · rw [if_neg (by omega), if_neg (by omega), if_pos rfl, if_neg (by decide), if_neg (by decide), if_neg (by decide), if_neg (by decide), if_neg (by decide), if_pos rfl]
            · rw [if_neg (by omega), if_pos rfl, if_neg (by decide), if_neg (by decide), if_neg (by decide), if_neg (by decide), if_neg (by decide), if_neg (by decide), if_pos rfl, hv]
            · rw [if_pos rfl, if_neg (by decide), if_neg (by decide), if_neg (by decide), if_neg (by decide), if_neg (by decide), if_neg (by decide), if_neg (by decide)]
              rfl
          · rw [if_neg (by omega), if_neg (by omega), if_neg (by omega), if_neg (by omega), if_neg (by omega), if_neg (by omega), if_neg (by omega), if_neg (by omega)]
            exact h23 n (by omega) j hj)
        refine ⟨g, ?_, a2⟩
        rw [show sA τ 23 g = sA (sA τ 23 (upd (upd (upd (upd (upd (upd (upd (upd (τ.2.1 23) (8 * k) (nI (S.2.2.1 k))) (8 * k + 1) (nI (S.2.2.2.1 k))) (8 * k + 2) (nI (S.2.2.2.2.1 k))) (8 * k + 3) (m k)) (8 * k + 4) (sf4 S k)) (8 * k + 5) (sf5 S k)) (8 * k + 6) v) (8 * k + 7) (-1))) 23 g by unfold sA; rw [vf2], ← a1]
        congr 1
        unfold sA
        rw [vf2]
        rfl
      by_cases e3 : m k = val k
      · rw [if_pos e3]
        exact go 0 (by rw [if_pos e3])
      · rw [if_neg e3]
        exact go 1 (by rw [if_neg e3])
theorem m_run {w t : Nat} {rd pl : Nat → Nat} (hd : DOK w t rd pl) {c en : Nat} {val : Nat → Int32} {sp : Nat → Nat} (hs : ∀ n, n < c → there w t pl (sp n)) (hc : c ≤ 40) (hen : en < c) {τ : St} (hD : MD w t rd pl τ) (hP : MP c en val τ) (h7 : ∀ n, n < c → τ.2.1 7 n = nI (sp n)) :
    ∃ τ', F_mX11_run τ = some (nI (rlen c 2000 (m0 val en)), τ') ∧ fr1 [16, 17, 18, 19, 20, 21, 22, 23, 24] [14, 15, 16, 17, 18, 19, 20, 21, 22, 23] τ τ' ∧ MR c 1 (rrF (rend c 2000 (m0 val en)) (rms c 2000 (m0 val en)) (stL (phF w sp) (rnF w rd sp) (rev c 2000 (m0 val en)) 0 S0)) (rms c 2000 (m0 val en)).2.2.2.2 (rfF (stL (phF w sp) (rnF w rd sp) (rev c 2000 (m0 val en)) 0 S0) (rms c 2000 (m0 val en)).1 val (shL c (sf4 (stL (phF w sp) (rnF w rd sp) (rev c 2000 (m0 val en)) 0 S0)) (sf5 (stL (phF w sp) (rnF w rd sp) (rev c 2000 (m0 val en)) 0 S0)) 40 (fun _ => 0))) τ' := by
  have hl := rev_len c 2000 (m0 val en)
  have hl2 := rlen_le c 2000 (m0 val en)
  have hev := rev_ok hc 2000 (m0 val en) hen
  have hSF := SFo.stL (ph := phF w sp) (rn := rnF w rd sp) (rev c 2000 (m0 val en)) 0 S0 hev (by omega) (SFo_0 c)
  have hF4 := hSF.FO4 (by omega)
  have hpc := rms_pc (c := c) 2000 (m0 val en)
  have hpc : (rms c 2000 (m0 val en)).2.2.2.1 ≤ 2000 := by
    have : (m0 val en).2.2.2.1 = 0 := rfl
    omega
  obtain ⟨τ1, a1, a2, a3, a4, a5, a6⟩ := m_goes hd hs hc hen hD hP h7
  generalize hm : rms c 2000 (m0 val en) = m at *
  generalize hS : stL (phF w sp) (rnF w rd sp) (rev c 2000 (m0 val en)) 0 S0 = S at *
  unfold F_mX11_run
  rw [hP.1, if_neg (nI_ne0 (by omega) (by omega)), a1, bv_is, a4, a5.2.1, a5.2.2.1, a5.2.2.2.1, a6.1, a6.2.1]
  have f1 : fr1 [16, 17, 18, 19, 20, 21, 22, 23, 24] [14, 15, 16, 17, 18, 19, 20, 21, 22, 23] τ1 (sA (sI τ1 23 1) 21 (upd (upd (upd (upd (upd (upd (τ1.2.1 21) 0 (nI (rend c 2000 (m0 val en)))) 1 m.2.1) 2 (nI m.2.2.1)) 3 (nI m.2.2.2.1)) 4 (nI S.1)) 5 (nI S.2.1))) := (fr1.rf.sI (by decide)).sA (by decide)
  have e21 : ∀ k, k < 6 → upd (upd (upd (upd (upd (upd (τ1.2.1 21) 0 (nI (rend c 2000 (m0 val en)))) 1 m.2.1) 2 (nI m.2.2.1)) 3 (nI m.2.2.2.1)) 4 (nI S.1)) 5 (nI S.2.1) k = rrF (rend c 2000 (m0 val en)) m S k := by
    intro k hk
    rw [u_is, u_is, u_is, u_is, u_is, u_is]
    unfold rrF
    rcases (show k = 0 ∨ k = 1 ∨ k = 2 ∨ k = 3 ∨ k = 4 ∨ k = 5 by omega) with rfl | rfl | rfl | rfl | rfl | rfl <;> rfl
  generalize upd (upd (upd (upd (upd (upd (τ1.2.1 21) 0 (nI (rend c 2000 (m0 val en)))) 1 m.2.1) 2 (nI m.2.2.1)) 3 (nI m.2.2.2.1)) 4 (nI S.1)) 5 (nI S.2.1) = g21 at f1 e21 ⊢
  obtain ⟨g, b1, b2⟩ := m_81 FU 0 (sA (sI τ1 23 1) 21 g21) (by omega) (by rw [FU_is]; omega) (fun j hj => absurd hj (Nat.not_lt_zero _))
  rw [show F_mX11_run_81 FU 0 (sA (sI τ1 23 1) 21 g21) = _ from b1]
  have f2 : fr1 [24] [22] (sA (sI τ1 23 1) 21 g21) (sI (sA (sA (sI τ1 23 1) 21 g21) 22 g) 24 ((sA (sI τ1 23 1) 21 g21).1 12)) := (fr1.rf.sA (by decide)).sI (by decide)
  have h12 : (sA (sI τ1 23 1) 21 g21).1 12 = nI c := (a2.1 12 (by decide)).trans hP.1
  rw [h12] at f2 ⊢
  have e23 : (sI (sA (sA (sI τ1 23 1) 21 g21) 22 g) 24 (nI c)).1 23 = 1 := rfl
  have e24 : (sI (sA (sA (sI τ1 23 1) 21 g21) 22 g) 24 (nI c)).1 24 = nI c := rfl
  have ea : (sI (sA (sA (sI τ1 23 1) 21 g21) 22 g) 24 (nI c)).2.1 21 = g21 := rfl
  have eb : (sI (sA (sA (sI τ1 23 1) 21 g21) 22 g) 24 (nI c)).2.1 22 = g := rfl
  have fa : fr1 [23, 24] [21, 22] τ1 (sI (sA (sA (sI τ1 23 1) 21 g21) 22 g) 24 (nI c)) := (((fr1.rf.sI (by decide)).sA (by decide)).sA (by decide)).sI (by decide)
  generalize sI (sA (sA (sI τ1 23 1) 21 g21) 22 g) 24 (nI c) = τ2 at f2 e23 e24 ea eb fa ⊢
  obtain ⟨g3, c1, c2⟩ := m_115 (S := S) (m := m.1) (val := val) hc FU 0 τ2 (Nat.zero_le _) (by rw [FU_is]; omega) ((fa.1 12 (by decide)).trans ((a2.1 12 (by decide)).trans hP.1)) (fun n hn => by
    rw [fa.2 14 (by decide), fa.2 6 (by decide), fa.2 16 (by decide), fa.2 17 (by decide), fa.2 18 (by decide), fa.2 19 (by decide), fa.2 20 (by decide)]
    obtain ⟨z1, z2, z3, z4, z5⟩ := a6.2.2 n hn
    exact ⟨a5.1 n hn, by rw [a2.2 6 (by decide)]; exact hP.2.2 n hn, z1, z2, z3, z4, z5⟩) (fun n hn => absurd hn (Nat.not_lt_zero _))
  rw [show F_mX11_run_115 FU 0 τ2 = _ from c1]
  unfold F_mX11_share
  obtain ⟨τ3, d1, d2, d3, d4⟩ := m_sh2 hc hF4.1 40 FU c (fun _ => 0) (sA τ2 23 g3) (Nat.le_refl _) (Nat.le_trans (fb_ct_le _ _) hc) (fb_ct_le _ _) (by rw [FU_is]; omega) SI_0 ⟨e24, fun n hn => ⟨c2 n hn 4 (by omega), c2 n hn 5 (by omega), c2 n hn 7 (by omega)⟩⟩
  rw [Nat.sub_self] at d1
  rw [show F_mX11_share_2 FU 0 (sA τ2 23 g3) = _ from d1, bv_is]
  have f3 : fr1 [] [23] τ2 τ3 := (fr1.rf.sA (by decide) : fr1 [] [23] τ2 (sA τ2 23 g3)).tr d2
  refine ⟨τ3, ?_, ((a2.wk (by decide) (by decide)).tr (fa.wk (by decide) (by decide))).tr (f3.wk (by decide) (by decide)), (f3.1 23 (by decide)).trans e23, fun _ => ⟨(f3.1 24 (by decide)).trans e24, fun k hk => ?_, fun j hj hj2 => ?_, fun n hn k hk => ?_⟩⟩
  · rw [f3.1 16 (by decide), fa.1 16 (by decide), a3]
  · rw [f3.2 21 (by decide), ea]; exact e21 k hk
  · rw [f3.2 22 (by decide), eb, b2 j hj]
    refine a5.2.2.2.2 j hj ?_
    have hj3 : nI j < nI m.2.2.2.1 := hj2
    exact (nI_ltI (by omega) (by omega)).mp hj3
  · rw [rfF_at _ _ _ _ n hk]
    by_cases e : k = 7
    · subst e
      exact (d3.2 n hn).2.2
    · rw [d4 _ (by omega)]
      show g3 (8 * n + k) = _
      rw [c2 n hn k hk]
      unfold fld
      rcases (show k = 0 ∨ k = 1 ∨ k = 2 ∨ k = 3 ∨ k = 4 ∨ k = 5 ∨ k = 6 by omega) with rfl | rfl | rfl | rfl | rfl | rfl | rfl <;> rfl
def rS (q : Ab) : Sm := stL (phF (q.1 1) (q.2.1 2)) (rnF (q.1 1) (q.2.1 0) (q.2.1 2)) (rev (q.1 3) 2000 (m0 (q.2.2.2 1) (q.1 4))) 0 S0
def rM (q : Ab) : Ms := rms (q.1 3) 2000 (m0 (q.2.2.2 1) (q.1 4))
def rQ (q : Ab) : Ab := aR q (nI (needN (sf4 (rS q)) (sf5 (rS q)) (q.1 3) (q.1 3))) (rrF (rend (q.1 3) 2000 (m0 (q.2.2.2 1) (q.1 4))) (rM q) (rS q)) (rM q).2.2.2.2 (rfF (rS q) (rM q).1 (q.2.2.2 1) (shL (q.1 3) (sf4 (rS q)) (sf5 (rS q)) 40 (fun _ => 0)))
theorem rQ_ok {q : Ab} (hq : OKq q) (h0 : ¬ q.1 3 = 0) : OKq (rQ q) := by
  have hR : ROK (q.1 3) 1 (nI (needN (sf4 (rS q)) (sf5 (rS q)) (q.1 3) (q.1 3))) (rrF (rend (q.1 3) 2000 (m0 (q.2.2.2 1) (q.1 4))) (rM q) (rS q)) (rfF (rS q) (rM q).1 (q.2.2.2 1) (shL (q.1 3) (sf4 (rS q)) (sf5 (rS q)) 40 (fun _ => 0))) := by
    refine ⟨Or.inr rfl, fun z => absurd z (by decide), fun _ => ⟨?_, by omega⟩⟩
    have e4 : (fun n => rfF (rS q) (rM q).1 (q.2.2.2 1) (shL (q.1 3) (sf4 (rS q)) (sf5 (rS q)) 40 (fun _ => 0)) (8 * n + 4)) = sf4 (rS q) := funext fun n => by rw [rfF_at _ _ _ _ n (by omega)]; rfl
    have e5 : (fun n => rfF (rS q) (rM q).1 (q.2.2.2 1) (shL (q.1 3) (sf4 (rS q)) (sf5 (rS q)) 40 (fun _ => 0)) (8 * n + 5)) = sf5 (rS q) := funext fun n => by rw [rfF_at _ _ _ _ n (by omega)]; rfl
    rw [e4, e5]
  exact ⟨hq.1, hq.2.1, hq.2.2.1, hq.2.2.2.1, hq.2.2.2.2.1, hq.2.2.2.2.2.1, hq.2.2.2.2.2.2.1, hR⟩
theorem api_run : API F_xX10_run F_mX11_run := by
  intro q hq
  have hd := hq.2.1
  have hc : q.1 3 ≤ 40 := hq.2.2.1.1
  have hL := hq.2.2.2.1.1
  by_cases h0 : q.1 3 = 0
  · refine ⟨-4, q, hq, fun σ h => ⟨σ, ?_, h⟩, fun τ h => ⟨τ, ?_, h⟩⟩
    · unfold F_xX10_run
      rw [h.2.2.1.1, h0, if_pos nI_0]
    · unfold F_mX11_run
      rw [h.2.2.1.1, h0, if_pos nI_0]
  · have hen := en_lt hq h0
    refine ⟨nI (rlen (q.1 3) 2000 (m0 (q.2.2.2 1) (q.1 4))), rQ q, rQ_ok hq h0, fun σ h => ?_, fun τ h => ?_⟩
    · obtain ⟨σ1, a1, a2, a3, a4, a5, a6⟩ := x_follow hc h.2.2.1 hen
      have hX := h.fr a2 (by decide) (by decide)
      obtain ⟨σ2, b1, b2, b3⟩ := x_write hc hen (rn_ok hd hL) hX.2.2.1 (XS_of hX) a3 a4 a5 a6
      refine ⟨σ2, ?_, AX_run h ((a2.wk (by decide) (by decide)).tr (b2.wk (by decide) (by decide))) b3⟩
      unfold F_xX10_run
      rw [h.2.2.1.1, if_neg (nI_ne0 (by omega) (by omega)), a1, bv_is, b1, bv_is, b2.1 18 (by decide), a3]
    · obtain ⟨τ1, a1, a2, a3⟩ := m_run hd hL hc hen h.2.1 h.2.2.1 h.2.2.2.1.1
      exact ⟨τ1, a1, AM_run h a2 a3⟩
