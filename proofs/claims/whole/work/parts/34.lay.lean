/-! needed, spots, spoil, lay, keep -/
theorem vf2 {α : Type} (f : Nat → α) (k : Nat) (x y : α) : vf_upd (vf_upd f k x) k y = vf_upd f k y := by
  funext j
  unfold vf_upd
  by_cases h : j = k
  · rw [if_pos h, if_pos h]
  · rw [if_neg h, if_neg h, if_neg h]
theorem sA_sA (σ : St) (k : Nat) (f g : Nat → Int32) : sA (sA σ k f) k g = sA σ k g := by
  unfold sA
  simp only [vf2]
theorem sI_sI (σ : St) (k : Nat) (x y : Int32) : sI (sI σ k x) k y = sI σ k y := by
  unfold sI
  simp only [vf2]
theorem sI_sA (σ : St) (k a : Nat) (v : Int32) (f : Nat → Int32) : sI (sA σ a f) k v = sA (sI σ k v) a f := rfl
theorem m1_ne (n : Nat) (h : n < 2 ^ 31) : ¬ nI n = -1 := by
  intro e
  rw [i_eq, nI_toInt h] at e
  have : (-1 : Int32).toInt = -1 := rfl
  omega
theorem ovl_le (f4 f5 : Nat → Int32) (n : Nat) : ∀ k, ovl f4 f5 n k ≤ k := by
  intro k
  induction k with
  | zero => exact Nat.le_refl _
  | succ k ih =>
    show ovl f4 f5 n k + (if _ then 1 else 0) ≤ k + 1
    split <;> omega
theorem needN_le (f4 f5 : Nat → Int32) (c : Nat) : ∀ k, needN f4 f5 c k ≤ c := by
  intro k
  induction k with
  | zero => exact Nat.zero_le _
  | succ k ih =>
    have := ovl_le f4 f5 k c
    show (if f4 k = -1 then needN f4 f5 c k else max (needN f4 f5 c k) (ovl f4 f5 k c)) ≤ c
    split
    · exact ih
    · exact Nat.max_le.mpr ⟨ih, this⟩
theorem nI_p0 (a : Nat) : nI a + 0 = nI (a + 0) := nI_add a 0
theorem mn_42 {c : Nat} {rf : Nat → Int32} {τ : St} (hc : c ≤ 40) (h24 : τ.1 24 = nI c) (hR : ∀ n, n < c → ∀ k, k < 8 → τ.2.1 23 (8 * n + k) = rf (8 * n + k)) (b : Int32 → Int32 → St → Option (Int32 × St)) {M a : Nat} (ha : a < c) (hM : M ≤ c) :
    ∀ (n k : Nat), k ≤ c → c < n + k → F_mX11_needed_42 b n (nI M) (nI a) (nI (ovl (fun n => rf (8 * n + 4)) (fun n => rf (8 * n + 5)) a k)) (nI k) τ = b (nI (max M (ovl (fun n => rf (8 * n + 4)) (fun n => rf (8 * n + 5)) a c))) (nI (a + 1)) τ := by
  intro n
  induction n with
  | zero => intro k h1 h2; omega
  | succ n ih =>
    intro k h1 h2
    have hov := ovl_le (fun n => rf (8 * n + 4)) (fun n => rf (8 * n + 5)) a k
    unfold F_mX11_needed_42
    rw [h24]
    by_cases e : k = c
    · subst e
      rw [if_pos (nI_le (Nat.le_refl _) (by omega)), nI_1]
      by_cases h : ovl (fun n => rf (8 * n + 4)) (fun n => rf (8 * n + 5)) a k ≤ M
      · rw [if_pos (nI_le h (by omega)), Nat.max_eq_left h]
      · rw [if_neg (nI_ge (by omega) (by omega)), Nat.max_eq_right (by omega)]
    · have hk : k < c := by omega
      have e4 : (8 : Int32) * nI k + 4 = nI (8 * k + 4) := by rw [show (8 : Int32) = nI 8 from rfl, pk_mul, show (4 : Int32) = nI 4 from rfl, nI_add]
      have e5 : (8 : Int32) * nI k + 5 = nI (8 * k + 5) := by rw [show (8 : Int32) = nI 8 from rfl, pk_mul, show (5 : Int32) = nI 5 from rfl, nI_add]
      have f4 : (8 : Int32) * nI a + 4 = nI (8 * a + 4) := by rw [show (8 : Int32) = nI 8 from rfl, pk_mul, show (4 : Int32) = nI 4 from rfl, nI_add]
      rw [if_neg (nI_ge hk (by omega)), e4, e5, f4, if_pos (ib_nI (by omega) (by omega)), nI_clamp (by omega), nI_clamp (by omega), nI_clamp (by omega), hR k hk 4 (by omega), hR k hk 5 (by omega), hR a ha 4 (by omega), if_pos (ib_nI (by omega) (by omega)), if_pos (ib_nI (by omega) (by omega))]
      have step : ∀ z : Nat, (z = if rf (8 * k + 4) ≠ -1 ∧ rf (8 * k + 4) ≤ rf (8 * a + 4) ∧ rf (8 * a + 4) ≤ rf (8 * k + 5) then 1 else 0) → F_mX11_needed_42 b n (nI M) (nI a) (nI (ovl (fun n => rf (8 * n + 4)) (fun n => rf (8 * n + 5)) a k + z)) (nI (k + 1)) τ = b (nI (max M (ovl (fun n => rf (8 * n + 4)) (fun n => rf (8 * n + 5)) a c))) (nI (a + 1)) τ := by
        intro z hz
        have := ih (k + 1) (by omega) (by omega)
        have e2 : ovl (fun n => rf (8 * n + 4)) (fun n => rf (8 * n + 5)) a (k + 1) = ovl (fun n => rf (8 * n + 4)) (fun n => rf (8 * n + 5)) a k + z := by rw [hz]; rfl
        rw [e2] at this
        exact this
      simp only [nI_1, nI_p0]
      by_cases c1 : rf (8 * k + 4) = -1
      · rw [if_pos c1]
        exact step 0 (by rw [if_neg (fun h => h.1 c1)])
      rw [if_neg c1]
      by_cases c2 : rf (8 * a + 4) < rf (8 * k + 4)
      · rw [if_pos c2]
        exact step 0 (by rw [if_neg (fun h => by have := h.2.1; rw [i_le] at this; rw [i_lt] at c2; omega)])
      rw [if_neg c2]
      by_cases c3 : rf (8 * k + 5) < rf (8 * a + 4)
      · rw [if_pos c3]
        exact step 0 (by rw [if_neg (fun h => by have := h.2.2; rw [i_le] at this; rw [i_lt] at c3; omega)])
      rw [if_neg c3]
      exact step 1 (by rw [if_pos ⟨c1, by rw [i_lt] at c2; rw [i_le]; omega, by rw [i_lt] at c3; rw [i_le]; omega⟩])
theorem mn_4 {c : Nat} {rf : Nat → Int32} {τ : St} (hc : c ≤ 40) (h23 : τ.1 23 = 1) (h24 : τ.1 24 = nI c) (hR : ∀ n, n < c → ∀ k, k < 8 → τ.2.1 23 (8 * n + k) = rf (8 * n + k)) :
    ∀ (n a : Nat), a ≤ c → c < n + a → F_mX11_needed_4 n (nI (needN (fun n => rf (8 * n + 4)) (fun n => rf (8 * n + 5)) c a)) (nI a) τ = some (nI (needN (fun n => rf (8 * n + 4)) (fun n => rf (8 * n + 5)) c c), τ) := by
  intro n
  induction n with
  | zero => intro a h1 h2; omega
  | succ n ih =>
    intro a h1 h2
    unfold F_mX11_needed_4
    rw [h24, h23]
    by_cases e : a = c
    · subst e
      rw [if_pos (nI_le (Nat.le_refl _) (by omega))]
    · have ha : a < c := by omega
      have f4 : (8 : Int32) * nI a + 4 = nI (8 * a + 4) := by rw [show (8 : Int32) = nI 8 from rfl, pk_mul, show (4 : Int32) = nI 4 from rfl, nI_add]
      rw [if_neg (nI_ge ha (by omega)), if_neg (by decide), f4, if_pos (ib_nI (by omega) (by omega)), nI_clamp (by omega), hR a ha 4 (by omega)]
      by_cases c1 : rf (8 * a + 4) = -1
      · rw [if_pos c1, nI_1]
        have := ih (a + 1) (by omega) (by omega)
        have e2 : needN (fun n => rf (8 * n + 4)) (fun n => rf (8 * n + 5)) c (a + 1) = needN (fun n => rf (8 * n + 4)) (fun n => rf (8 * n + 5)) c a := by
          show (if rf (8 * a + 4) = -1 then _ else _) = _
          rw [if_pos c1]
        rw [e2] at this
        exact this
      · rw [if_neg c1]
        have h42 := mn_42 hc h24 hR (F_mX11_needed_4 n) (M := needN (fun n => rf (8 * n + 4)) (fun n => rf (8 * n + 5)) c a) ha (needN_le _ _ c a) FU 0 (Nat.zero_le _) (by rw [FU_is]; omega)
        have e2 : needN (fun n => rf (8 * n + 4)) (fun n => rf (8 * n + 5)) c (a + 1) = max (needN (fun n => rf (8 * n + 4)) (fun n => rf (8 * n + 5)) c a) (ovl (fun n => rf (8 * n + 4)) (fun n => rf (8 * n + 5)) a c) := by
          show (if rf (8 * a + 4) = -1 then _ else _) = _
          rw [if_neg c1]
        have h9 := ih (a + 1) (by omega) (by omega)
        rw [e2] at h9
        exact h42.trans h9
theorem api_needed : API F_xX10_needed F_mX11_needed := by
  intro q hq
  have hc : q.1 3 ≤ 40 := hq.2.2.1.1
  refine ⟨q.2.2.1 3, q, hq, fun σ h => ⟨σ, ?_, h⟩, fun τ h => ⟨τ, ?_, h⟩⟩
  · unfold F_xX10_needed
    rw [h.2.2.2.2.2.1.2.1]
  · unfold F_mX11_needed
    rcases hq.2.2.2.2.2.2.2.1 with hw | hw
    · rw [hq.2.2.2.2.2.2.2.2.1 hw]
      show F_mX11_needed_4 (4095 + 1) 0 0 τ = _
      unfold F_mX11_needed_4
      rw [h.2.2.2.2.2.1.1, hw]
      by_cases c1 : τ.1 24 ≤ 0
      · rw [if_pos c1]
      · rw [if_neg c1, if_pos rfl]
    · have hR := h.2.2.2.2.2.1.2 hw
      rw [(hq.2.2.2.2.2.2.2.2.2 hw).1]
      exact mn_4 hc (h.2.2.2.2.2.1.1.trans hw) hR.1 hR.2.2.2 FU 0 (Nat.zero_le _) (by rw [FU_is]; omega)
/-! spots -/
theorem dw_lt {w t : Nat} {rd pl : Nat → Nat} (hd : DOK w t rd pl) : t * w ≤ 128 := by
  have := Nat.mul_le_mul hd.2.2.2.1 hd.2.1
  omega
theorem there_lt {w t : Nat} {rd pl : Nat → Nat} (hd : DOK w t rd pl) {s : Nat} (h : there w t pl s) : s < 128 ∧ s / w < t := by
  have := dw_lt hd
  refine ⟨by have := h.1; omega, ?_⟩
  exact Nat.div_lt_of_lt_mul (by rw [Nat.mul_comm]; exact h.1)
theorem sp_cases (w t : Nat) (pl : Nat → Nat) (x : Int32) : (∃ s, s < 2 ^ 31 ∧ x = nI s ∧ there w t pl s) ∨ (∀ s, s < 2 ^ 31 → x = nI s → ¬ there w t pl s) := by
  by_cases h0 : x < 0
  · right
    intro s hs e
    rw [e] at h0
    exact absurd h0 (nI_pos hs)
  · obtain ⟨s, hs, rfl⟩ := nI_of h0
    by_cases h : there w t pl s
    · exact Or.inl ⟨s, hs, rfl, h⟩
    · right
      intro s' hs' e
      have := (nI_eq hs hs').mp e
      subst this
      exact h
theorem x_place {w t : Nat} {rd pl : Nat → Nat} (hd : DOK w t rd pl) {σ : St} (h7 : σ.1 7 = nI w) {s : Nat} (hs : s < 2 ^ 31) : F_xX1_placeOf (nI s) σ = some (nI (s % w), σ) := by
  have hw := hd.1
  have hw2 := hd.2.1
  unfold F_xX1_placeOf
  rw [h7, if_pos (show (1 : Int32) ≤ nI w from nI_le (a := 1) (by omega) (by omega)), if_neg (nI_ne0 (by omega) (by omega)), pk_rem hs (by omega) (by omega)]
theorem x_track {w t : Nat} {rd pl : Nat → Nat} (hd : DOK w t rd pl) {σ : St} (h7 : σ.1 7 = nI w) {s : Nat} (hs : s < 2 ^ 31) (ht : s / w < 4) : F_xX1_trackOf (nI s) σ = some (nI (s / w), σ) := by
  have hw := hd.1
  have hw2 := hd.2.1
  unfold F_xX1_trackOf F_xX1_trackOf_18
  rw [h7, if_pos (show (1 : Int32) ≤ nI w from nI_le (a := 1) (by omega) (by omega)), if_neg (nI_ne0 (by omega) (by omega)), pk_div hs (by omega) (by omega), if_neg (nI_pos (by omega)), if_pos (show nI (s / w) < (4 : Int32) from nI_lt (b := 4) ht (by omega))]
theorem x_end {w t : Nat} {rd pl : Nat → Nat} (hd : DOK w t rd pl) {σ : St} (h : XD w t rd pl σ) : F_xX1_spotsEnd σ = some (nI (t * w), σ) := by
  have := dw_lt hd
  unfold F_xX1_spotsEnd
  rw [h.1, h.2.1, pk_mul, Nat.mul_comm]
  by_cases e : t * w = 128
  · rw [e]; rfl
  · rw [if_pos (show nI (t * w) < (128 : Int32) from nI_lt (b := 128) (by omega) (by omega))]
theorem x_has_y {w t : Nat} {rd pl : Nat → Nat} (hd : DOK w t rd pl) {σ : St} (h : XD w t rd pl σ) {s : Nat} (hs : there w t pl s) : F_xX1_hasSpot (nI s) σ = some (1, σ) := by
  obtain ⟨h1, h2⟩ := there_lt hd hs
  have ht := hd.2.2.2.1
  have := dw_lt hd
  have hp := (hd.2.2.2.2 (s / w) h2).2.2.2
  have hw := hd.2.1
  have hm : s % w < w := Nat.mod_lt _ (by have := hd.1; omega)
  unfold F_xX1_hasSpot
  rw [if_neg (nI_pos (by omega)), x_end hd h, bd_is, if_neg (nI_ge hs.1 (by omega)), x_place hd h.1 (by omega), bd_is, x_track hd h.1 (by omega) (by omega), bd_is, if_pos (ib_nI (by omega) (by omega)), nI_clamp (by omega), (h.2.2 _ h2).2, if_neg (nI_ge hs.2 (by omega))]
theorem x_has_n {w t : Nat} {rd pl : Nat → Nat} (hd : DOK w t rd pl) {σ : St} (h : XD w t rd pl σ) {x : Int32} (hx : ∀ s, s < 2 ^ 31 → x = nI s → ¬ there w t pl s) : F_xX1_hasSpot x σ = some (0, σ) := by
  have ht := hd.2.2.2.1
  have := dw_lt hd
  unfold F_xX1_hasSpot
  by_cases h0 : x < 0
  · rw [if_pos h0]
  rw [if_neg h0, x_end hd h, bd_is]
  obtain ⟨s, hs, rfl⟩ := nI_of h0
  have hx := hx s hs rfl
  by_cases h1 : t * w ≤ s
  · rw [if_pos (nI_le h1 hs)]
  rw [if_neg (nI_ge (by omega) (by omega))]
  have h2 : s / w < t := Nat.div_lt_of_lt_mul (by rw [Nat.mul_comm]; omega)
  have hp := (hd.2.2.2.2 (s / w) h2).2.2.2
  have hw := hd.2.1
  have hm : s % w < w := Nat.mod_lt _ (by have := hd.1; omega)
  have h3 : ¬ s % w < pl (s / w) := fun q => hx ⟨by omega, q⟩
  rw [x_place hd h.1 (by omega), bd_is, x_track hd h.1 (by omega) (by omega), bd_is, if_pos (ib_nI (by omega) (by omega)), nI_clamp (by omega), (h.2.2 _ h2).2, if_pos (nI_le (by omega) (by omega))]
theorem m_th_y {w t : Nat} {rd pl : Nat → Nat} (hd : DOK w t rd pl) {τ : St} (h : MD w t rd pl τ) {s : Nat} (hs : there w t pl s) : F_mX11_isThere (nI s) τ = some (1, τ) := by
  obtain ⟨h1, h2⟩ := there_lt hd hs
  have ht := hd.2.2.2.1
  have := dw_lt hd
  have hp := (hd.2.2.2.2 (s / w) h2).2.2.2
  have hw1 := hd.1
  have hw := hd.2.1
  have hm : s % w < w := Nat.mod_lt _ (by omega)
  have hin : ¬ (nI s < 0 ∨ nI (t * w) - 1 < nI s) := by
    rw [in_pred (by omega)]
    intro z
    rcases z with z | z
    · exact nI_pos (by omega) z
    · exact nI_ge hs.1 (by omega) z
  unfold F_mX11_isThere
  rw [h.1, h.2.1, pk_mul, in_is, if_neg hin, bd_is, if_neg (by decide), h.1, if_neg (nI_ne0 (by omega) (by omega)), pk_div (by omega) (by omega) (by omega), if_pos (ib_nI (by omega) (by omega)), nI_clamp (by omega), (h.2.2 _ h2).2]
  rw [show nI s - nI (s / w) * nI w = nI (s % w) by rw [← pk_div (a := s) (d := w) (by omega) (by omega) (by omega)]; exact pk_rem (by omega) (by omega) (by omega), if_neg (nI_ge hs.2 (by omega))]
theorem m_th_n {w t : Nat} {rd pl : Nat → Nat} (hd : DOK w t rd pl) {τ : St} (h : MD w t rd pl τ) {x : Int32} (hx : ∀ s, s < 2 ^ 31 → x = nI s → ¬ there w t pl s) : F_mX11_isThere x τ = some (0, τ) := by
  have ht := hd.2.2.2.1
  have := dw_lt hd
  have hw1 := hd.1
  have hw := hd.2.1
  unfold F_mX11_isThere
  rw [h.1, h.2.1, pk_mul, in_is, bd_is]
  by_cases h0 : x < 0 ∨ nI (t * w) - 1 < x
  · rw [if_pos h0, if_pos rfl]
  rw [if_neg h0, if_neg (by decide), h.1]
  rw [in_pred (by omega)] at h0
  obtain ⟨s, hs, rfl⟩ := nI_of (x := x) (fun z => h0 (Or.inl z))
  have h1 : s < t * w := by
    rcases Nat.lt_or_ge s (t * w) with z | z
    · exact z
    · exact absurd (Or.inr (nI_le z hs)) h0
  have hx := hx s hs rfl
  have h2 : s / w < t := Nat.div_lt_of_lt_mul (by rw [Nat.mul_comm]; omega)
  have hp := (hd.2.2.2.2 (s / w) h2).2.2.2
  have hm : s % w < w := Nat.mod_lt _ (by omega)
  have h3 : ¬ s % w < pl (s / w) := fun q => hx ⟨by omega, q⟩
  rw [if_neg (nI_ne0 (by omega) (by omega)), pk_div (by omega) (by omega) (by omega), if_pos (ib_nI (by omega) (by omega)), nI_clamp (by omega), (h.2.2 _ h2).2]
  rw [show nI s - nI (s / w) * nI w = nI (s % w) by rw [← pk_div (a := s) (d := w) (by omega) (by omega) (by omega)]; exact pk_rem (by omega) (by omega) (by omega), if_pos (nI_le (by omega) (by omega))]
theorem m_lies_n {c : Nat} {sp : Nat → Nat} {τ : St} (hc : c ≤ 40) (h12 : τ.1 12 = nI c) (h7 : ∀ n, n < c → τ.2.1 7 n = nI (sp n)) (hb : ∀ n, n < c → sp n < 128) {s : Nat} (hs : s < 128) (hn : ∀ n, n < c → sp n ≠ s) : ∀ (n k : Nat), k ≤ c → c < n + k → F_mX11_liesOn_2 n (nI s) (nI k) τ = some (-1, τ) := by
  intro n
  induction n with
  | zero => intro k h1 h2; omega
  | succ n ih =>
    intro k h1 h2
    unfold F_mX11_liesOn_2
    rw [h12]
    by_cases e : k = c
    · subst e
      rw [if_pos (nI_le (Nat.le_refl _) (by omega))]
    · have hk : k < c := by omega
      have := hb k hk
      rw [if_neg (nI_ge hk (by omega)), if_pos (ib_nI (by omega) (by omega)), nI_clamp (by omega), h7 k hk, if_neg (by rw [nI_eq (by omega) (by omega)]; exact hn k hk), nI_1]
      exact ih (k + 1) (by omega) (by omega)
theorem m_lies_y {c : Nat} {sp : Nat → Nat} {τ : St} (hc : c ≤ 40) (h12 : τ.1 12 = nI c) (h7 : ∀ n, n < c → τ.2.1 7 n = nI (sp n)) (hb : ∀ n, n < c → sp n < 128) (hi : ∀ m n, m < c → n < c → sp m = sp n → m = n) {a : Nat} (ha : a < c) : ∀ (n k : Nat), k ≤ a → c < n + k → F_mX11_liesOn_2 n (nI (sp a)) (nI k) τ = some (nI a, τ) := by
  intro n
  induction n with
  | zero => intro k h1 h2; omega
  | succ n ih =>
    intro k h1 h2
    unfold F_mX11_liesOn_2
    have hk : k < c := by omega
    have := hb k hk
    have := hb a ha
    rw [h12, if_neg (nI_ge hk (by omega)), if_pos (ib_nI (by omega) (by omega)), nI_clamp (by omega), h7 k hk]
    by_cases e : k = a
    · subst e
      rw [if_pos rfl]
    · rw [if_neg (by rw [nI_eq (by omega) (by omega)]; exact fun z => e (hi k a hk ha z)), nI_1]
      exact ih (k + 1) (by omega) (by omega)
theorem m_lies {w t : Nat} {rd pl : Nat → Nat} (hd : DOK w t rd pl) {c : Nat} {sp : Nat → Nat} (hL : LOK w t pl c sp) {τ : St} (hc : c ≤ 40) (h12 : τ.1 12 = nI c) (h7 : ∀ n, n < c → τ.2.1 7 n = nI (sp n)) {s : Nat} (hs : s < 128) : (∃ a, a < c ∧ sp a = s ∧ F_mX11_liesOn (nI s) τ = some (nI a, τ)) ∨ ((∀ n, n < c → sp n ≠ s) ∧ F_mX11_liesOn (nI s) τ = some (-1, τ)) := by
  have hb : ∀ n, n < c → sp n < 128 := fun n hn => (there_lt hd (hL.1 n hn)).1
  by_cases h : ∃ a, a < c ∧ sp a = s
  · obtain ⟨a, ha, rfl⟩ := h
    exact Or.inl ⟨a, ha, rfl, m_lies_y hc h12 h7 hb hL.2 ha FU 0 (Nat.zero_le _) (by rw [FU_is]; omega)⟩
  · exact Or.inr ⟨fun n hn e => h ⟨n, hn, e⟩, m_lies_n hc h12 h7 hb hs (fun n hn e => h ⟨n, hn, e⟩) FU 0 (Nat.zero_le _) (by rw [FU_is]; omega)⟩
theorem api_spoil (x : Int32) : API (F_xX10_spoil x) (F_mX11_spoil x) := by
  intro q hq
  have hd := hq.2.1
  have hc : q.1 3 ≤ 40 := hq.2.2.1.1
  have hL := hq.2.2.2.1
  rcases sp_cases (q.1 1) (q.1 2) (q.2.1 1) x with ⟨s, hs, rfl, hth⟩ | hx
  · have hs128 := (there_lt hd hth).1
    rcases hq.2.2.2.2.1 s hs128 with hb | hb
    · -- not bad
      by_cases hl : ∃ a, a < q.1 3 ∧ q.2.1 2 a = s
      · obtain ⟨a, ha, rfl⟩ := hl
        refine ⟨nI a, aG q 2 (upd (q.2.2.2 2) (q.2.1 2 a) 1), ⟨hq.1, hq.2.1, hq.2.2.1, hq.2.2.2.1, fun s' hs' => ?_, hq.2.2.2.2.2⟩, fun σ h => ⟨sA σ 30 (upd (σ.2.1 30) (q.2.1 2 a) 1), ?_, h.1, h.2.1, h.2.2.1, ⟨h.2.2.2.1.1, h.2.2.2.1.2.1, h.2.2.2.1.2.2.1, fun s' hs' => ?_⟩, h.2.2.2.2⟩, fun τ h => ⟨sA τ 4 (upd (τ.2.1 4) (q.2.1 2 a) 1), ?_, h.1, h.2.1, h.2.2.1, ⟨h.2.2.2.1.1, fun s' hs' => ?_⟩, h.2.2.2.2⟩⟩
        · show upd (q.2.2.2 2) (q.2.1 2 a) 1 s' = 0 ∨ upd (q.2.2.2 2) (q.2.1 2 a) 1 s' = 1
          rw [u_is]
          split
          · exact Or.inr rfl
          · exact hq.2.2.2.2.1 s' hs'
        · unfold F_xX10_spoil
          rw [x_has_y hd h.2.1 hth, bd_is, if_neg (by decide), if_pos (ib_nI hs128 (by omega)), nI_clamp (by omega), h.2.2.2.1.2.2.2 _ hs128, hb, if_pos rfl, (h.2.2.2.1.2.1 a ha).2.2.2]
          rfl
        · show upd (σ.2.1 30) (q.2.1 2 a) 1 s' = upd (q.2.2.2 2) (q.2.1 2 a) 1 s'
          rw [u_is, u_is, h.2.2.2.1.2.2.2 s' hs']
        · unfold F_mX11_spoil
          rw [m_th_y hd h.2.1 hth, bd_is, if_neg (by decide), if_pos (ib_nI hs128 (by omega)), nI_clamp (by omega), h.2.2.2.1.2 _ hs128, hb, if_pos rfl]
          rcases m_lies hd hL (τ := sA τ 4 (upd (τ.2.1 4) (q.2.1 2 a) (vp_nar .boolean 1))) hc h.2.2.1.1 h.2.2.2.1.1 hs128 with ⟨a', ha', e, he⟩ | ⟨hn, -⟩
          · have := hL.2 a' a ha' ha e
            subst this
            rw [he]
            rfl
          · exact absurd rfl (hn a ha)
        · show upd (τ.2.1 4) (q.2.1 2 a) 1 s' = upd (q.2.2.2 2) (q.2.1 2 a) 1 s'
          rw [u_is, u_is, h.2.2.2.1.2 s' hs']
      · have hl2 : ∀ n, n < q.1 3 → q.2.1 2 n ≠ s := fun n hn e => hl ⟨n, hn, e⟩
        refine ⟨-1, aG q 2 (upd (q.2.2.2 2) s 1), ⟨hq.1, hq.2.1, hq.2.2.1, hq.2.2.2.1, fun s' hs' => ?_, hq.2.2.2.2.2⟩, fun σ h => ⟨sA σ 30 (upd (σ.2.1 30) s 1), ?_, h.1, h.2.1, h.2.2.1, ⟨h.2.2.2.1.1, h.2.2.2.1.2.1, h.2.2.2.1.2.2.1, fun s' hs' => ?_⟩, h.2.2.2.2⟩, fun τ h => ⟨sA τ 4 (upd (τ.2.1 4) s 1), ?_, h.1, h.2.1, h.2.2.1, ⟨h.2.2.2.1.1, fun s' hs' => ?_⟩, h.2.2.2.2⟩⟩
        · show upd (q.2.2.2 2) s 1 s' = 0 ∨ upd (q.2.2.2 2) s 1 s' = 1
          rw [u_is]
          split
          · exact Or.inr rfl
          · exact hq.2.2.2.2.1 s' hs'
        · unfold F_xX10_spoil
          rw [x_has_y hd h.2.1 hth, bd_is, if_neg (by decide), if_pos (ib_nI hs128 (by omega)), nI_clamp (by omega), h.2.2.2.1.2.2.2 _ hs128, hb, if_pos rfl, h.2.2.2.1.2.2.1 s hs128 hl2]
          rfl
        · show upd (σ.2.1 30) s 1 s' = upd (q.2.2.2 2) s 1 s'
          rw [u_is, u_is, h.2.2.2.1.2.2.2 s' hs']
        · unfold F_mX11_spoil
          rw [m_th_y hd h.2.1 hth, bd_is, if_neg (by decide), if_pos (ib_nI hs128 (by omega)), nI_clamp (by omega), h.2.2.2.1.2 _ hs128, hb, if_pos rfl]
          rcases m_lies hd hL (τ := sA τ 4 (upd (τ.2.1 4) s (vp_nar .boolean 1))) hc h.2.2.1.1 h.2.2.2.1.1 hs128 with ⟨a', ha', e, -⟩ | ⟨-, he⟩
          · exact absurd e (hl2 a' ha')
          · rw [he]
            rfl
        · show upd (τ.2.1 4) s 1 s' = upd (q.2.2.2 2) s 1 s'
          rw [u_is, u_is, h.2.2.2.1.2 s' hs']
    · refine ⟨-4, q, hq, fun σ h => ⟨σ, ?_, h⟩, fun τ h => ⟨τ, ?_, h⟩⟩
      · unfold F_xX10_spoil
        rw [x_has_y hd h.2.1 hth, bd_is, if_neg (by decide), if_pos (ib_nI hs128 (by omega)), nI_clamp (by omega), h.2.2.2.1.2.2.2 _ hs128, hb, if_neg (by decide)]
      · unfold F_mX11_spoil
        rw [m_th_y hd h.2.1 hth, bd_is, if_neg (by decide), if_pos (ib_nI hs128 (by omega)), nI_clamp (by omega), h.2.2.2.1.2 _ hs128, hb, if_neg (by decide)]
  · refine ⟨-2, q, hq, fun σ h => ⟨σ, ?_, h⟩, fun τ h => ⟨τ, ?_, h⟩⟩
    · unfold F_xX10_spoil
      rw [x_has_n hd h.2.1 hx, bd_is, if_pos rfl]
    · unfold F_mX11_spoil
      rw [m_th_n hd h.2.1 hx, bd_is, if_pos rfl]
