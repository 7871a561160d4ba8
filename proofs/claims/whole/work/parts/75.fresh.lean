/-! a fresh laying -/
def thB (w t : Nat) (pl : Nat → Nat) (s : Nat) : Bool := decide (s < t * w ∧ s % w < pl (s / w))
theorem thB_is {w t : Nat} {pl : Nat → Nat} {s : Nat} : thB w t pl s = true ↔ there w t pl s := ⟨fun h => of_decide_eq_true (p := s < t * w ∧ s % w < pl (s / w)) h, fun h => decide_eq_true (p := s < t * w ∧ s % w < pl (s / w)) h⟩
def fsp (w t : Nat) (pl : Nat → Nat) (n : Nat) : Nat := nwS (thB w t pl) n 128
theorem th_ct {w t : Nat} {rd pl : Nat → Nat} (hd : DOK w t rd pl) : fb_ct (thB w t pl) 128 = nsp pl t := by
  have h128 := dw_lt hd
  have hw : 0 < w := by have := hd.1; omega
  have row : ∀ k, k < t → fb_ct (thB w t pl) (k * w) = nsp pl k → ∀ j, j ≤ w → fb_ct (thB w t pl) (k * w + j) = nsp pl k + min j (pl k) := by
    intro k hk h0 j
    induction j with
    | zero => intro _; rw [Nat.add_zero, h0, Nat.zero_min, Nat.add_zero]
    | succ j ih =>
      intro hj
      have h1 := ih (by omega)
      have e1 : (k * w + j) % w = j := by rw [Nat.mul_comm, Nat.mul_add_mod, Nat.mod_eq_of_lt (by omega)]
      have e2 : (k * w + j) / w = k := by rw [Nat.mul_comm, Nat.mul_add_div hw, Nat.div_eq_of_lt (by omega), Nat.add_zero]
      have e3 : k * w + j < t * w := by
        have := Nat.mul_le_mul_right w (show k + 1 ≤ t from hk)
        rw [Nat.add_mul] at this
        omega
      rw [← Nat.add_assoc, fb_ct_succ, h1]
      by_cases q : j < pl k
      · rw [if_pos (show thB w t pl (k * w + j) = true from decide_eq_true ⟨e3, by rw [e1, e2]; exact q⟩)]
        omega
      · rw [if_neg (show ¬ thB w t pl (k * w + j) = true from fun z => by
          have z' := (of_decide_eq_true z).2
          rw [e1, e2] at z'
          exact q z')]
        omega
  have all : ∀ k, k ≤ t → fb_ct (thB w t pl) (k * w) = nsp pl k := by
    intro k
    induction k with
    | zero => intro _; rw [Nat.zero_mul]; rfl
    | succ k ih =>
      intro hk
      have h1 := row k (by omega) (ih (by omega)) w (Nat.le_refl _)
      have h2 := hd.2.2.2.2 k (by omega)
      rw [Nat.add_mul, Nat.one_mul, h1, show min w (pl k) = pl k by omega]
      rfl
  rw [← all t (Nat.le_refl _)]
  exact fb_stop _ 128 h128 (fun k hk => decide_eq_false (fun q => by omega))
theorem fsp_is {w t : Nat} {rd pl : Nat → Nat} (hd : DOK w t rd pl) {s : Nat} (hs : there w t pl s) : fsp w t pl (fb_ct (thB w t pl) s) = s := nwS_is (thB_is.mpr hs) 128 (there_lt hd hs).1
theorem fsp_lt {w t : Nat} {rd pl : Nat → Nat} (hd : DOK w t rd pl) {n s : Nat} (h : n < fb_ct (thB w t pl) s) : fsp w t pl n < s ∧ there w t pl (fsp w t pl n) ∧ fb_ct (thB w t pl) (fsp w t pl n) = n := by
  obtain ⟨m, h1, h2, h3⟩ := fb_nth _ s n h
  have := fsp_is hd (thB_is.mp h2)
  rw [h3] at this
  rw [this]
  exact ⟨h1, thB_is.mp h2, h3⟩
theorem fsp_ok {w t : Nat} {rd pl : Nat → Nat} (hd : DOK w t rd pl) {c : Nat} (hc : c ≤ nsp pl t) : LOK w t pl c (fsp w t pl) := by
  rw [← th_ct hd] at hc
  refine ⟨fun n hn => (fsp_lt hd (show n < fb_ct (thB w t pl) 128 by omega)).2.1, fun a b ha hb e => ?_⟩
  have h1 := (fsp_lt hd (show a < fb_ct (thB w t pl) 128 by omega)).2.2
  have h2 := (fsp_lt hd (show b < fb_ct (thB w t pl) 128 by omega)).2.2
  rw [← h1, ← h2, e]
theorem nar0 : vp_nar .boolean 0 = 0 := rfl
theorem x_begin27 {w t : Nat} {rd pl : Nat → Nat} (hd : DOK w t rd pl) {c : Nat} (hc : c ≤ 40) : ∀ (f s : Nat) (σ : St), s ≤ 128 → 128 < f + s → XD w t rd pl σ → σ.1 17 = nI (min c (fb_ct (thB w t pl) s)) → XS w rd (min c (fb_ct (thB w t pl) s)) (fsp w t pl) σ → (∀ n, n < min c (fb_ct (thB w t pl) s) → σ.2.1 29 (fsp w t pl n) = nI n) → (∀ u, u < s → (∀ n, n < min c (fb_ct (thB w t pl) s) → fsp w t pl n ≠ u) → σ.2.1 29 u = -1) → (∀ u, u < s → σ.2.1 30 u = 0) →
    ∃ σ', F_xX3_begin_27 f (nI c) (nI s) σ = some σ' ∧ fr1 [17] [26, 27, 28, 29, 30] σ σ' ∧ σ'.1 17 = nI (min c (fb_ct (thB w t pl) 128)) ∧ XS w rd (min c (fb_ct (thB w t pl) 128)) (fsp w t pl) σ' ∧ (∀ n, n < min c (fb_ct (thB w t pl) 128) → σ'.2.1 29 (fsp w t pl n) = nI n) ∧ (∀ u, u < 128 → (∀ n, n < min c (fb_ct (thB w t pl) 128) → fsp w t pl n ≠ u) → σ'.2.1 29 u = -1) ∧ (∀ u, u < 128 → σ'.2.1 30 u = 0) := by
  intro f
  induction f with
  | zero => intro s σ h1 h2; omega
  | succ f ih =>
    intro s σ hs hf hD h17 hS hN1 hN2 h30
    unfold F_xX3_begin_27
    by_cases e : s = 128
    · subst e
      rw [if_pos (show (128 : Int32) ≤ nI 128 from nI_le (a := 128) (Nat.le_refl _) (by omega))]
      exact ⟨σ, rfl, fr1.rf, h17, hS, hN1, hN2, h30⟩
    · have hlt : s < 128 := by omega
      rw [if_neg (show ¬ (128 : Int32) ≤ nI s from nI_ge (b := 128) hlt (by omega)), if_pos (ib_nI hlt (by omega)), nI_clamp (by omega), nar0, h17]
      obtain ⟨m, hm⟩ : ∃ m, m = min c (fb_ct (thB w t pl) s) := ⟨_, rfl⟩
      rw [← hm] at h17 hS hN1 hN2 ⊢
      have hfl : ∀ n, n < m → fsp w t pl n < s := fun n hn => (fsp_lt hd (show n < fb_ct (thB w t pl) s by omega)).1
      obtain ⟨σ1, hσ1⟩ : ∃ σ1, σ1 = sA (sA σ 29 (upd (σ.2.1 29) s (-1))) 30 (upd (σ.2.1 30) s 0) := ⟨_, rfl⟩
      have f1 : fr1 [17] [26, 27, 28, 29, 30] σ σ1 := by rw [hσ1]; exact (fr1.rf.sA (by decide)).sA (by decide)
      have hD1 : XD w t rd pl σ1 := hD.fr f1 (by decide) (by decide) (by decide) (by decide)
      have h171 : σ1.1 17 = nI m := by rw [hσ1]; exact h17
      have hS1 : XS w rd m (fsp w t pl) σ1 := by rw [hσ1]; exact hS
      have k29 : ∀ u, σ1.2.1 29 u = if u = s then -1 else σ.2.1 29 u := fun u => by rw [hσ1]; exact u_is _ _ _ _
      have k30 : ∀ u, σ1.2.1 30 u = if u = s then 0 else σ.2.1 30 u := fun u => by rw [hσ1]; exact u_is _ _ _ _
      have hN11 : ∀ n, n < m → σ1.2.1 29 (fsp w t pl n) = nI n := fun n hn => by
        rw [k29, if_neg (by have := hfl n hn; omega)]
        exact hN1 n hn
      have hN21 : ∀ u, u < s + 1 → (∀ n, n < m → fsp w t pl n ≠ u) → σ1.2.1 29 u = -1 := fun u hu hno => by
        rw [k29]
        by_cases q : u = s
        · rw [if_pos q]
        · rw [if_neg q]; exact hN2 u (by omega) hno
      have h301 : ∀ u, u < s + 1 → σ1.2.1 30 u = 0 := fun u hu => by
        rw [k30]
        by_cases q : u = s
        · rw [if_pos q]
        · rw [if_neg q]; exact h30 u (by omega)
      rw [← hσ1, nI_1]
      have hcs := fb_ct_succ (thB w t pl) s
      have skip : min c (fb_ct (thB w t pl) (s + 1)) = m → ∃ σ', F_xX3_begin_27 f (nI c) (nI (s + 1)) σ1 = some σ' ∧ fr1 [17] [26, 27, 28, 29, 30] σ σ' ∧ σ'.1 17 = nI (min c (fb_ct (thB w t pl) 128)) ∧ XS w rd (min c (fb_ct (thB w t pl) 128)) (fsp w t pl) σ' ∧ (∀ n, n < min c (fb_ct (thB w t pl) 128) → σ'.2.1 29 (fsp w t pl n) = nI n) ∧ (∀ u, u < 128 → (∀ n, n < min c (fb_ct (thB w t pl) 128) → fsp w t pl n ≠ u) → σ'.2.1 29 u = -1) ∧ (∀ u, u < 128 → σ'.2.1 30 u = 0) := by
        intro em
        obtain ⟨σ', a1, a2, a3⟩ := ih (s + 1) σ1 (by omega) (by omega) hD1 (by rw [em]; exact h171) (by rw [em]; exact hS1) (by rw [em]; exact hN11) (by rw [em]; exact hN21) h301
        exact ⟨σ', a1, f1.tr a2, a3⟩
      by_cases e1 : c ≤ m
      · rw [if_pos (nI_le e1 (by omega))]
        refine skip ?_
        have := fb_mono (thB w t pl) (show s ≤ s + 1 by omega)
        omega
      · rw [if_neg (nI_ge (by omega) (by omega)), if_neg (show ¬ (40 : Int32) ≤ nI m from nI_ge (b := 40) (by omega) (by omega))]
        cases hB : thB w t pl s with
        | false =>
          have hno : ¬ there w t pl s := fun z => by rw [thB_is.mpr z] at hB; cases hB
          rw [x_has_n hd hD1 (x := nI s) (fun s' hs' e3 => by
            have := (nI_eq (show s < 2 ^ 31 by omega) hs').mp e3
            subst this
            exact hno), bd_is, if_pos rfl]
          refine skip ?_
          rw [hB] at hcs
          rw [hcs]
          exact hm.symm
        | true =>
          have hth := thB_is.mp hB
          rw [hB] at hcs
          have hcs' : fb_ct (thB w t pl) (s + 1) = fb_ct (thB w t pl) s + 1 := hcs
          have hme : m = fb_ct (thB w t pl) s := by omega
          have hfs : fsp w t pl m = s := by rw [hme]; exact fsp_is hd hth
          rw [x_has_y hd hD1 hth, bd_is, if_neg (by decide), h171, x_put hd hD1 (by omega) hth, bv_is]
          have em : min c (fb_ct (thB w t pl) (s + 1)) = m + 1 := by omega
          have f2 := fr_put (w := w) (rd := rd) m s σ1
          have f3 : fr1 [17] [26, 27, 28, 29, 30] σ (sI (putS w rd m s σ1) 17 (nI (m + 1))) := (f1.tr (f2.wk (by decide) (by decide))).sI (by decide)
          rw [show (putS w rd m s σ1).1 17 = nI m from h171, nI_1]
          obtain ⟨σ', a1, a2, a3⟩ := ih (s + 1) (sI (putS w rd m s σ1) 17 (nI (m + 1))) (by omega) (by omega) (hD.fr f3 (by decide) (by decide) (by decide) (by decide)) (by rw [em]; rfl) (by
            rw [em]
            intro n hn
            show upd (σ1.2.1 26) m (nI s) n = _ ∧ upd (σ1.2.1 27) m _ n = _ ∧ upd (σ1.2.1 28) m _ n = _
            rw [u_is, u_is, u_is]
            by_cases q : n = m
            · rw [if_pos q, if_pos q, if_pos q, q, hfs]; exact ⟨rfl, rfl, rfl⟩
            · rw [if_neg q, if_neg q, if_neg q]; exact hS1 n (by omega)) (by
            rw [em]
            intro n hn
            show upd (σ1.2.1 29) s (nI m) (fsp w t pl n) = _
            rw [u_is]
            by_cases q : n = m
            · rw [q, hfs, if_pos rfl]
            · rw [if_neg (by have := hfl n (by omega); omega)]; exact hN11 n (by omega)) (by
            rw [em]
            intro u hu hno
            show upd (σ1.2.1 29) s (nI m) u = _
            rw [u_is, if_neg (fun q => hno m (by omega) (hfs.trans q.symm))]
            exact hN21 u hu (fun n hn => hno n (by omega))) (fun u hu => h301 u hu)
          exact ⟨σ', a1, f3.tr a2, a3⟩
theorem x_begin7 (c : Int32) : ∀ (f k : Nat) (σ : St), k ≤ 4 → 4 < f + k → (∀ j, j < k → σ.2.1 36 j = 0) → ∃ σ', F_xX3_begin_7 f c (nI k) σ = F_xX3_begin_27 FU c 0 σ' ∧ fr1 [] [36] σ σ' ∧ ∀ j, j < 4 → σ'.2.1 36 j = 0 := by
  intro f
  induction f with
  | zero => intro k σ h1 h2; omega
  | succ f ih =>
    intro k σ hk hf h
    unfold F_xX3_begin_7
    by_cases e : k = 4
    · subst e
      rw [if_pos (show (4 : Int32) ≤ nI 4 from nI_le (a := 4) (Nat.le_refl _) (by omega))]
      exact ⟨σ, rfl, fr1.rf, h⟩
    · rw [if_neg (show ¬ (4 : Int32) ≤ nI k from nI_ge (b := 4) (by omega) (by omega)), if_pos (ib_nI (by omega) (by omega)), nI_clamp (by omega), nar0, nI_1]
      have f1 : fr1 [] [36] σ (sA σ 36 (upd (σ.2.1 36) k 0)) := fr1.rf.sA (by decide)
      obtain ⟨σ', a1, a2, a3⟩ := ih (k + 1) (sA σ 36 (upd (σ.2.1 36) k 0)) (by omega) (by omega) (fun j hj => by
        show upd (σ.2.1 36) k 0 j = 0
        rw [u_is]
        by_cases q : j = k
        · rw [if_pos q]
        · rw [if_neg q]; exact h j (by omega))
      exact ⟨σ', a1, f1.tr a2, a3⟩
theorem x_afresh {w t : Nat} {rd pl : Nat → Nat} (hd : DOK w t rd pl) {c : Nat} (hc : c ≤ 40) (hcn : c ≤ nsp pl t) {σ : St} (hD : XD w t rd pl σ) (h11 : σ.1 11 = nI c) : ∃ σ', F_xX10_startAfresh σ = some σ' ∧ fr1 [17, 23, 30] [26, 27, 28, 29, 30, 36] σ σ' ∧ XL w rd c (fsp w t pl) (fun _ => 0) σ' ∧ (∀ k, k < 4 → σ'.2.1 36 k = 0) ∧ σ'.1 23 = 0 ∧ σ'.1 30 = 0 := by
  have f0 : fr1 [17, 23, 30] [26, 27, 28, 29, 30, 36] σ (sI σ 17 0) := fr1.rf.sI (by decide)
  obtain ⟨σ1, a1, a2, a3⟩ := x_begin7 (nI c) FU 0 (sI σ 17 0) (by omega) (by rw [FU_is]; omega) (fun j hj => by cases hj)
  have f1 : fr1 [17, 23, 30] [26, 27, 28, 29, 30, 36] σ σ1 := f0.tr (a2.wk (by decide) (by decide))
  obtain ⟨σ2, b1', b2, b3, b4, b5, b6, b7⟩ := x_begin27 hd hc FU 0 σ1 (by omega) (by rw [FU_is]; omega) (hD.fr f1 (by decide) (by decide) (by decide) (by decide)) ((a2.1 17 (by decide)).trans (by
    show (0 : Int32) = nI (min c 0)
    rw [Nat.min_zero]; rfl)) (fun n hn => by
    have hn' : n < min c 0 := hn
    omega) (fun n hn => by
    have hn' : n < min c 0 := hn
    omega) (fun u hu => by omega) (fun u hu => by omega)
  rw [th_ct hd, show min c (nsp pl t) = c by omega] at b3 b4 b5 b6
  have f2 : fr1 [17, 23, 30] [26, 27, 28, 29, 30, 36] σ (sI (sI σ2 23 0) 30 0) := ((f1.tr (b2.wk (by decide) (by decide))).sI (by decide)).sI (by decide)
  refine ⟨sI (sI σ2 23 0) 30 0, ?_, f2, ?_, ?_, rfl, rfl⟩
  · unfold F_xX10_startAfresh F_xX3_begin F_xX7_clear
    rw [h11, show F_xX3_begin_7 FU (nI c) 0 (sI σ 17 0) = _ from a1, show F_xX3_begin_27 FU (nI c) 0 σ1 = _ from b1', bv_is, bv_is]
  · rw [XL_iff]
    exact ⟨b3, b4, ⟨b5, b6⟩, b7⟩
  · intro k hk
    show σ2.2.1 36 k = 0
    rw [b2.2 36 (by decide)]
    exact a3 k hk
theorem m_lf34 {w t : Nat} {rd pl : Nat → Nat} (hd : DOK w t rd pl) (b26 : Int32 → Int32 → St → Option St) {n : Nat} (hn : n < nsp pl t) (hn40 : n < 40) : ∀ (d f p : Nat) (τ : St), p + d = fsp w t pl n → d < f → MD w t rd pl τ → F_mX11_layFirst_34 b26 f (nI p) (nI n) τ = b26 (nI (fsp w t pl n + 1)) (nI (n + 1)) (sA τ 7 (upd (τ.2.1 7) n (nI (fsp w t pl n)))) ∨ ∃ p', p ≤ p' ∧ p' < fsp w t pl n ∧ there w t pl p' := by
  rw [← th_ct hd] at hn
  have hf := fsp_lt hd hn
  intro d
  induction d with
  | zero =>
    intro f p τ hp hfu hD
    match f, hfu with
    | f + 1, _ =>
      left
      have hpe : p = fsp w t pl n := by omega
      unfold F_mX11_layFirst_34
      rw [hpe, m_th_y hd hD hf.2.1, bd_is, if_neg (by decide), if_pos (ib_nI hn40 (by omega)), nI_clamp (by omega), nI_1, nI_1]
  | succ d ih =>
    intro f p τ hp hfu hD
    match f, hfu with
    | f + 1, hfu =>
      by_cases hth : there w t pl p
      · exact Or.inr ⟨p, Nat.le_refl _, by omega, hth⟩
      · unfold F_mX11_layFirst_34
        rw [m_th_n hd hD (x := nI p) (fun s' hs' e3 => by
          have := (nI_eq (show p < 2 ^ 31 by omega) hs').mp e3
          subst this
          exact hth), bd_is, if_pos rfl, nI_1]
        rcases ih f (p + 1) τ (by omega) (by omega) hD with q | ⟨p', q1, q2, q3⟩
        · exact Or.inl q
        · exact Or.inr ⟨p', by omega, q2, q3⟩
theorem m_lf26 {w t : Nat} {rd pl : Nat → Nat} (hd : DOK w t rd pl) {c : Nat} (hc : c ≤ 40) (hcn : c ≤ nsp pl t) : ∀ (f n p : Nat) (τ : St), n ≤ c → c < f + n → p ≤ 128 → fb_ct (thB w t pl) p = n → MD w t rd pl τ → τ.1 12 = nI c → (∀ m, m < n → τ.2.1 7 m = nI (fsp w t pl m)) → ∃ τ', F_mX11_layFirst_26 f (nI p) (nI n) τ = F_mX11_layFirst_66 FU 0 τ' ∧ fr1 [] [7] τ τ' ∧ ∀ m, m < c → τ'.2.1 7 m = nI (fsp w t pl m) := by
  intro f
  induction f with
  | zero => intro n p τ h1 h2; omega
  | succ f ih =>
    intro n p τ hn hf hp hct hD h12 h7
    unfold F_mX11_layFirst_26
    rw [h12]
    by_cases e : n = c
    · subst e
      rw [if_pos (nI_le (Nat.le_refl _) (by omega))]
      exact ⟨τ, rfl, fr1.rf, h7⟩
    · have hlt : n < nsp pl t := by omega
      have hlt' := hlt
      rw [← th_ct hd] at hlt'
      have hfs := fsp_lt hd hlt'
      have hge : p ≤ fsp w t pl n := by
        rcases Nat.lt_or_ge (fsp w t pl n) p with z | z
        · have := fb_lt (thB w t pl) z (thB_is.mpr hfs.2.1)
          omega
        · exact z
      rw [if_neg (nI_ge (show n < c by omega) (by omega))]
      rcases m_lf34 hd (F_mX11_layFirst_26 f) hlt (by omega) (fsp w t pl n - p) FU p τ (by omega) (by rw [FU_is]; omega) hD with q | ⟨p', q1, q2, q3⟩
      · rw [q]
        have f1 : fr1 [] [7] τ (sA τ 7 (upd (τ.2.1 7) n (nI (fsp w t pl n)))) := fr1.rf.sA (by decide)
        obtain ⟨τ', a1, a2, a3⟩ := ih (n + 1) (fsp w t pl n + 1) (sA τ 7 (upd (τ.2.1 7) n (nI (fsp w t pl n)))) (by omega) (by omega) (by omega) (by rw [fb_ct_succ, if_pos (thB_is.mpr hfs.2.1), hfs.2.2]) (hD.fr f1 (by decide) (by decide) (by decide) (by decide)) h12 (fun m hm => by
          show upd (τ.2.1 7) n (nI (fsp w t pl n)) m = _
          rw [u_is]
          by_cases q : m = n
          · rw [if_pos q, q]
          · rw [if_neg q]; exact h7 m (by omega))
        exact ⟨τ', a1, f1.tr a2, a3⟩
      · have h1 := fb_mono (thB w t pl) q1
        have h2 := fb_lt (thB w t pl) q2 (thB_is.mpr q3)
        omega
theorem m_lf2 : ∀ (f s : Nat) (τ : St), s ≤ 128 → 128 < f + s → (∀ u, u < s → τ.2.1 4 u = 0) → ∃ τ', F_mX11_layFirst_2 f (nI s) τ = F_mX11_layFirst_26 FU 0 0 τ' ∧ fr1 [] [4] τ τ' ∧ ∀ u, u < 128 → τ'.2.1 4 u = 0 := by
  intro f
  induction f with
  | zero => intro s τ h1 h2; omega
  | succ f ih =>
    intro s τ hs hf h
    unfold F_mX11_layFirst_2
    by_cases e : s = 128
    · subst e
      rw [if_pos (show (128 : Int32) ≤ nI 128 from nI_le (a := 128) (Nat.le_refl _) (by omega))]
      exact ⟨τ, rfl, fr1.rf, h⟩
    · rw [if_neg (show ¬ (128 : Int32) ≤ nI s from nI_ge (b := 128) (by omega) (by omega)), if_pos (ib_nI (by omega) (by omega)), nI_clamp (by omega), nar0, nI_1]
      have f1 : fr1 [] [4] τ (sA τ 4 (upd (τ.2.1 4) s 0)) := fr1.rf.sA (by decide)
      obtain ⟨τ', a1, a2, a3⟩ := ih (s + 1) (sA τ 4 (upd (τ.2.1 4) s 0)) (by omega) (by omega) (fun j hj => by
        show upd (τ.2.1 4) s 0 j = 0
        rw [u_is]
        by_cases q : j = s
        · rw [if_pos q]
        · rw [if_neg q]; exact h j (by omega))
      exact ⟨τ', a1, f1.tr a2, a3⟩
theorem m_lf66 : ∀ (f k : Nat) (τ : St), k ≤ 4 → 4 < f + k → (∀ j, j < k → τ.2.1 27 j = 0) → ∃ τ', F_mX11_layFirst_66 f (nI k) τ = some τ' ∧ fr1 [23] [27] τ τ' ∧ (∀ j, j < 4 → τ'.2.1 27 j = 0) ∧ τ'.1 23 = 0 := by
  intro f
  induction f with
  | zero => intro k τ h1 h2; omega
  | succ f ih =>
    intro k τ hk hf h
    unfold F_mX11_layFirst_66
    by_cases e : k = 4
    · subst e
      rw [if_pos (show (4 : Int32) ≤ nI 4 from nI_le (a := 4) (Nat.le_refl _) (by omega))]
      exact ⟨_, rfl, fr1.rf.sI (by decide), h, rfl⟩
    · rw [if_neg (show ¬ (4 : Int32) ≤ nI k from nI_ge (b := 4) (by omega) (by omega)), if_pos (ib_nI (by omega) (by omega)), nI_clamp (by omega), nar0, nI_1]
      have f1 : fr1 [23] [27] τ (sA τ 27 (upd (τ.2.1 27) k 0)) := fr1.rf.sA (by decide)
      obtain ⟨τ', a1, a2, a3⟩ := ih (k + 1) (sA τ 27 (upd (τ.2.1 27) k 0)) (by omega) (by omega) (fun j hj => by
        show upd (τ.2.1 27) k 0 j = 0
        rw [u_is]
        by_cases q : j = k
        · rw [if_pos q]
        · rw [if_neg q]; exact h j (by omega))
      exact ⟨τ', a1, f1.tr a2, a3⟩
theorem m_layFirst {w t : Nat} {rd pl : Nat → Nat} (hd : DOK w t rd pl) {c : Nat} (hc : c ≤ 40) (hcn : c ≤ nsp pl t) {τ : St} (hD : MD w t rd pl τ) (h12 : τ.1 12 = nI c) : ∃ τ', F_mX11_layFirst τ = some τ' ∧ fr1 [23] [4, 7, 27] τ τ' ∧ ML c (fsp w t pl) (fun _ => 0) τ' ∧ (∀ k, k < 4 → τ'.2.1 27 k = 0) ∧ τ'.1 23 = 0 := by
  obtain ⟨τ1, a1, a2, a3⟩ := m_lf2 FU 0 τ (by omega) (by rw [FU_is]; omega) (fun u hu => by cases hu)
  obtain ⟨τ2, c1, c2, c3⟩ := m_lf26 hd hc hcn FU 0 0 τ1 (Nat.zero_le _) (by rw [FU_is]; omega) (by omega) rfl (hD.fr a2 (by decide) (by decide) (by decide) (by decide)) ((a2.1 12 (by decide)).trans h12) (fun m hm => by cases hm)
  obtain ⟨τ3, d1, d2, d3, d4⟩ := m_lf66 FU 0 τ2 (by omega) (by rw [FU_is]; omega) (fun u hu => by cases hu)
  refine ⟨τ3, ?_, ((a2.wk (by decide) (by decide) : fr1 [23] [4, 7, 27] τ τ1).tr (c2.wk (by decide) (by decide))).tr (d2.wk (by decide) (by decide)), ⟨fun n hn => by rw [d2.2 7 (by decide)]; exact c3 n hn, fun s hs => by rw [d2.2 4 (by decide), c2.2 4 (by decide)]; exact a3 s hs⟩, d3, d4⟩
  unfold F_mX11_layFirst
  rw [show F_mX11_layFirst_2 FU 0 τ = _ from a1, show F_mX11_layFirst_26 FU 0 0 τ1 = _ from c1]
  exact d1
