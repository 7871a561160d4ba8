/-! told, ran, of: spots counted, the report read -/
theorem FU_is : FU = 4096 := rfl
theorem nsp_le {w t : Nat} {rd pl : Nat → Nat} (h : DOK w t rd pl) : ∀ k, k ≤ t → nsp pl k ≤ k * w := by
  intro k
  induction k with
  | zero => intro _; simp [nsp]
  | succ k ih =>
    intro hk
    have h1 := ih (by omega)
    have h2 := (h.2.2.2.2 k (by omega)).2.2.2
    show nsp pl k + pl k ≤ (k + 1) * w
    rw [Nat.succ_mul]
    omega
theorem nsp_128 {w t : Nat} {rd pl : Nat → Nat} (h : DOK w t rd pl) {k : Nat} (hk : k ≤ t) : nsp pl k ≤ 128 := by
  have h1 := nsp_le h k hk
  have h2 : k * w ≤ 4 * 32 := Nat.mul_le_mul (by have := h.2.2.2.1; omega) h.2.1
  omega
theorem x_spots4 {w t : Nat} {rd pl : Nat → Nat} (hd : DOK w t rd pl) {σ : St} (h : XD w t rd pl σ) : ∀ (n k : Nat), k ≤ t → t < n + k → F_xX1_countSpots_4 n (nI (nsp pl k)) (nI k) σ = some (nI (nsp pl t), σ) := by
  intro n
  induction n with
  | zero => intro k h1 h2; omega
  | succ n ih =>
    intro k h1 h2
    have ht := hd.2.2.2.1
    unfold F_xX1_countSpots_4
    rw [h.2.1]
    by_cases e : k = t
    · subst e
      rw [if_pos (nI_le (Nat.le_refl _) (by omega))]
    · rw [if_neg (nI_ge (by omega) (by omega)), if_neg (show ¬ (4 : Int32) ≤ nI k from nI_ge (a := k) (b := 4) (by omega) (by omega)), if_pos (ib_nI (by omega) (by omega)), nI_clamp (by omega), (h.2.2 k (by omega)).2, nI_add, nI_1]
      exact ih (k + 1) (by omega) (by omega)
theorem x_spots {w t : Nat} {rd pl : Nat → Nat} (hd : DOK w t rd pl) {σ : St} (h : XD w t rd pl σ) : F_xX1_countSpots σ = some (nI (nsp pl t), σ) := x_spots4 hd h FU 0 (Nat.zero_le _) (by rw [FU_is]; have := hd.2.2.2.1; omega)
theorem m_spots4 {w t : Nat} {rd pl : Nat → Nat} (hd : DOK w t rd pl) {τ : St} (h : MD w t rd pl τ) : ∀ (n k : Nat), k ≤ t → t < n + k → F_mX11_spots_4 n (nI (nsp pl k)) (nI k) τ = some (nI (nsp pl t), τ) := by
  intro n
  induction n with
  | zero => intro k h1 h2; omega
  | succ n ih =>
    intro k h1 h2
    have ht := hd.2.2.2.1
    unfold F_mX11_spots_4
    rw [h.2.1]
    by_cases e : k = t
    · subst e
      rw [if_pos (nI_le (Nat.le_refl _) (by omega))]
    · rw [if_neg (nI_ge (by omega) (by omega)), if_pos (ib_nI (by omega) (by omega)), nI_clamp (by omega), (h.2.2 k (by omega)).2, nI_add, nI_1]
      exact ih (k + 1) (by omega) (by omega)
theorem m_spots {w t : Nat} {rd pl : Nat → Nat} (hd : DOK w t rd pl) {τ : St} (h : MD w t rd pl τ) : F_mX11_spots τ = some (nI (nsp pl t), τ) := m_spots4 hd h FU 0 (Nat.zero_le _) (by rw [FU_is]; have := hd.2.2.2.1; omega)
theorem i10 : (10 : Int32).toInt = 10 := rfl
theorem i9 : (9 : Int32).toInt = 9 := rfl
theorem api_told (x : Int32) : API (F_xX10_told x) (F_mX11_told x) := by
  intro q hq
  have hd := hq.2.1
  have ht := hd.2.2.2.1
  have h9 : (9 + nI (q.1 2)).toInt = 9 + (q.1 2 : Int) := by
    have h := nI_toInt (n := q.1 2) (by omega)
    rw [fb_addI (by rw [i9]; omega) (by rw [i9]; omega), i9, h]
  have h10 : (10 + nI (q.1 2)).toInt = 10 + (q.1 2 : Int) := by
    have h := nI_toInt (n := q.1 2) (by omega)
    rw [fb_addI (by rw [i10]; omega) (by rw [i10]; omega), i10, h]
  refine ⟨if x = 0 then nI (q.1 1) else if x = 1 then nI (q.1 2) else if x = 2 then nI (nsp (q.2.1 1) (q.1 2)) else if x = 3 then nI (q.1 3) else if x = 4 then nI (q.1 4) else if x = 5 then nI (q.1 5) else if x = 6 then nI (q.1 0) else if x.toInt < 10 ∨ 10 + (q.1 2 : Int) ≤ x.toInt then -1 else nI (q.2.1 0 (x - 10).toNatClampNeg), q, hq, fun σ h => ⟨σ, ?_, h⟩, fun τ h => ⟨τ, ?_, h⟩⟩
  · unfold F_xX10_told
    rw [h.2.1.1, h.2.1.2.1, x_spots hd h.2.1, h.2.2.1.1, h.2.2.1.2.1, h.2.2.2.2.2.2.1, h.1.1, bd_is]
    by_cases c0 : x = 0
    · simp only [if_pos c0]
    simp only [if_neg c0]
    by_cases c1 : x = 1
    · simp only [if_pos c1]
    simp only [if_neg c1]
    by_cases c2 : x = 2
    · simp only [if_pos c2]
    simp only [if_neg c2]
    by_cases c3 : x = 3
    · simp only [if_pos c3]
    simp only [if_neg c3]
    by_cases c4 : x = 4
    · simp only [if_pos c4]
    simp only [if_neg c4]
    by_cases c5 : x = 5
    · simp only [if_pos c5]
    simp only [if_neg c5]
    by_cases c6 : x = 6
    · simp only [if_pos c6]
    simp only [if_neg c6]
    by_cases c7 : x < 10
    · rw [if_pos c7, if_pos (Or.inl (by rw [i_lt, i10] at c7; exact c7))]
    rw [if_neg c7]
    have c7' : ¬ x.toInt < 10 := by rw [i_lt, i10] at c7; exact c7
    by_cases c8 : x < 10 + nI (q.1 2)
    · have c8' := c8
      rw [i_lt, h10] at c8'
      have hs : (x - 10).toInt = x.toInt - 10 := by rw [fb_subI (by rw [i10]; omega) (by rw [i10]; omega), i10]
      have hib : ib (x - 10) (q.1 2) = true := ib_iff.mpr ⟨by omega, by omega⟩
      obtain ⟨j, hj, ej⟩ := ib_of hib (by omega)
      rw [if_pos c8, if_pos (ib_iff.mpr ⟨by omega, by omega⟩), if_neg (by omega), ej, nI_clamp (by omega), (h.2.1.2.2 j hj).1]
    · rw [if_neg c8, if_pos (Or.inr (by rw [i_lt, h10] at c8; omega))]
  · unfold F_mX11_told
    rw [h.2.1.1, h.2.1.2.1, m_spots hd h.2.1, h.2.2.1.1, h.2.2.1.2.1, h.2.2.2.2.2.2.1, h.1.1, bd_is, in_is, bd_is]
    by_cases c0 : x = 0
    · simp only [if_pos c0]
    simp only [if_neg c0]
    by_cases c1 : x = 1
    · simp only [if_pos c1]
    simp only [if_neg c1]
    by_cases c2 : x = 2
    · simp only [if_pos c2]
    simp only [if_neg c2]
    by_cases c3 : x = 3
    · simp only [if_pos c3]
    simp only [if_neg c3]
    by_cases c4 : x = 4
    · simp only [if_pos c4]
    simp only [if_neg c4]
    by_cases c5 : x = 5
    · simp only [if_pos c5]
    simp only [if_neg c5]
    by_cases c6 : x = 6
    · simp only [if_pos c6]
    simp only [if_neg c6]
    by_cases c8 : x < 10 ∨ 9 + nI (q.1 2) < x
    · rw [if_pos c8, if_pos rfl, if_pos (by rw [i_lt, i_lt, h9, i10] at c8; omega)]
    · have c8' := c8
      rw [i_lt, i_lt, h9, i10] at c8'
      have hs : (x - 10).toInt = x.toInt - 10 := by rw [fb_subI (by rw [i10]; omega) (by rw [i10]; omega), i10]
      have hib : ib (x - 10) (q.1 2) = true := ib_iff.mpr ⟨by omega, by omega⟩
      obtain ⟨j, hj, ej⟩ := ib_of hib (by omega)
      rw [if_neg c8, if_neg (by decide), if_pos (ib_iff.mpr ⟨by omega, by omega⟩), if_neg (by omega), ej, nI_clamp (by omega), (h.2.1.2.2 j hj).1]
theorem api_ran (x : Int32) : API (F_xX10_ran x) (F_mX11_ran x) := by
  intro q hq
  rcases hq.2.2.2.2.2.2.2.1 with hw | hw
  · refine ⟨-2147483647, q, hq, fun σ h => ⟨σ, ?_, h⟩, fun τ h => ⟨τ, ?_, h⟩⟩
    · unfold F_xX10_ran F_xX7_tellRun
      rw [h.2.2.2.2.2.1.1, hw, if_pos rfl, bd_is]
    · unfold F_mX11_ran
      rw [h.2.2.2.2.2.1.1, hw, if_pos rfl]
  · have i100 : (100 : Int32).toInt = 100 := rfl
    have i200 : (200 : Int32).toInt = 200 := rfl
    have i5 : (5 : Int32).toInt = 5 := rfl
    have i0 : (0 : Int32).toInt = 0 := rfl
    refine ⟨if ib x 6 = true then q.2.2.2 4 x.toNatClampNeg else if x.toInt < 100 ∨ 200 ≤ x.toInt then -2147483647 else if x - 100 < q.2.2.2 4 3 then q.2.2.2 5 (x - 100).toNatClampNeg else -2147483647, q, hq, fun σ h => ⟨σ, ?_, h⟩, fun τ h => ⟨τ, ?_, h⟩⟩
    · have hR := h.2.2.2.2.2.1.2.2 hw
      unfold F_xX10_ran F_xX7_tellRun F_xX7_tellPrinted
      rw [h.2.2.2.2.2.1.1, hw, if_neg (by decide), hR.1.1, hR.1.2.1, hR.1.2.2.1, hR.1.2.2.2.1, hR.1.2.2.2.2.1, hR.1.2.2.2.2.2]
      by_cases c0 : x = 0
      · subst c0; rfl
      rw [if_neg c0]
      by_cases c1 : x = 1
      · subst c1; rfl
      rw [if_neg c1]
      by_cases c2 : x = 2
      · subst c2; rfl
      rw [if_neg c2]
      by_cases c3 : x = 3
      · subst c3; rfl
      rw [if_neg c3]
      by_cases c4 : x = 4
      · subst c4; rfl
      rw [if_neg c4]
      by_cases c5 : x = 5
      · subst c5; rfl
      rw [if_neg c5]
      have hn6 : ¬ ib x 6 = true := by
        intro hi
        obtain ⟨j, hj, rfl⟩ := ib_of hi (by omega)
        rcases (show j = 0 ∨ j = 1 ∨ j = 2 ∨ j = 3 ∨ j = 4 ∨ j = 5 by omega) with rfl | rfl | rfl | rfl | rfl | rfl
        · exact c0 rfl
        · exact c1 rfl
        · exact c2 rfl
        · exact c3 rfl
        · exact c4 rfl
        · exact c5 rfl
      rw [if_neg hn6]
      by_cases c6 : x < 100
      · rw [if_pos c6, bd_is, bd_is, if_pos (Or.inl (by rw [i_lt, i100] at c6; exact c6))]
      rw [if_neg c6]
      have c6' : ¬ x.toInt < 100 := by rw [i_lt, i100] at c6; exact c6
      by_cases c7 : 200 ≤ x
      · rw [if_pos c7, bd_is, bd_is, if_pos (Or.inr (by rw [i_le, i200] at c7; exact c7))]
      rw [if_neg c7]
      have c7' : ¬ 200 ≤ x.toInt := by rw [i_le, i200] at c7; exact c7
      have hs : (x - 100).toInt = x.toInt - 100 := by rw [fb_subI (by rw [i100]; omega) (by rw [i100]; omega), i100]
      rw [if_neg (show ¬ (x.toInt < 100 ∨ 200 ≤ x.toInt) by omega)]
      by_cases c8 : x - 100 < q.2.2.2 4 3
      · have hib : ib (x - 100) 100 = true := ib_iff.mpr ⟨by omega, by omega⟩
        obtain ⟨j, hj, ej⟩ := ib_of hib (by omega)
        rw [if_pos c8, if_pos hib, bd_is, bd_is, if_pos c8]
        rw [ej, nI_clamp (by omega), hR.2.1 j hj (by rw [← ej]; exact c8)]
      · rw [if_neg c8, bd_is, bd_is, if_neg c8]
    · have hR := h.2.2.2.2.2.1.2 hw
      unfold F_mX11_ran
      rw [h.2.2.2.2.2.1.1, hw, if_neg (by decide), in_is, bd_is, hR.2.1 3 (by omega)]
      by_cases c0 : x < 0 ∨ 5 < x
      · have hn6 : ¬ ib x 6 = true := by
          rw [ib_iff]; rw [i_lt, i_lt, i0, i5] at c0; omega
        rw [if_pos c0, if_pos rfl, if_neg hn6]
        by_cases c6 : x < 100
        · rw [if_pos c6, if_pos (Or.inl (by rw [i_lt, i100] at c6; exact c6))]
        rw [if_neg c6]
        have c6' : ¬ x.toInt < 100 := by rw [i_lt, i100] at c6; exact c6
        by_cases c7 : 200 ≤ x
        · rw [if_pos c7, if_pos (Or.inr (by rw [i_le, i200] at c7; exact c7))]
        rw [if_neg c7]
        have c7' : ¬ 200 ≤ x.toInt := by rw [i_le, i200] at c7; exact c7
        have hs : (x - 100).toInt = x.toInt - 100 := by rw [fb_subI (by rw [i100]; omega) (by rw [i100]; omega), i100]
        rw [if_neg (show ¬ (x.toInt < 100 ∨ 200 ≤ x.toInt) by omega)]
        by_cases c8 : x - 100 < q.2.2.2 4 3
        · have hib : ib (x - 100) 100 = true := ib_iff.mpr ⟨by omega, by omega⟩
          obtain ⟨j, hj, ej⟩ := ib_of hib (by omega)
          rw [if_neg (show ¬ q.2.2.2 4 3 ≤ x - 100 from by rw [i_lt] at c8; rw [i_le]; omega), if_pos hib, if_pos c8]
          rw [ej, nI_clamp (by omega), hR.2.2.1 j hj (by rw [← ej]; exact c8)]
        · rw [if_pos (show q.2.2.2 4 3 ≤ x - 100 from by rw [i_lt] at c8; rw [i_le]; omega), if_neg c8]
      · have h6 : ib x 6 = true := by
          rw [ib_iff]; rw [i_lt, i_lt, i0, i5] at c0; omega
        obtain ⟨j, hj, rfl⟩ := ib_of h6 (by omega)
        rw [if_neg c0, if_neg (by decide), if_pos h6, if_pos h6, nI_clamp (by omega), hR.2.1 j hj]
theorem api_of (x y : Int32) : API (F_xX10_of x y) (F_mX11_of x y) := by
  intro q hq
  have hc : q.1 3 ≤ 40 := hq.2.2.1.1
  have i7 : (7 : Int32).toInt = 7 := rfl
  have i0 : (0 : Int32).toInt = 0 := rfl
  rcases hq.2.2.2.2.2.2.2.1 with hw | hw
  · refine ⟨-2147483647, q, hq, fun σ h => ⟨σ, ?_, h⟩, fun τ h => ⟨τ, ?_, h⟩⟩
    · unfold F_xX10_of
      rcases nm_cases x (c := q.1 3) (by omega) with ⟨j, hj, rfl⟩ | ⟨hx, -⟩
      · unfold F_xX7_tellName
        rw [has_y h.2.2.1 hc hj, bd_is, if_neg (by decide), h.2.2.2.2.2.1.1, hw, if_pos rfl, bd_is]
      · rw [has_n h.2.2.1 hx, bd_is, if_pos rfl]
    · unfold F_mX11_of
      rw [h.2.2.2.2.2.1.1, hw, if_pos rfl]
  · rcases nm_cases x (c := q.1 3) (by omega) with ⟨j, hj, rfl⟩ | ⟨hx, -⟩
    · rcases nm_cases y (c := 8) (by omega) with ⟨k, hk, rfl⟩ | ⟨hy, hy2⟩
      · refine ⟨q.2.2.2 6 (8 * j + k), q, hq, fun σ h => ⟨σ, ?_, h⟩, fun τ h => ⟨τ, ?_, h⟩⟩
        · have hR := (h.2.2.2.2.2.1.2.2 hw).2.2 j hj
          unfold F_xX10_of F_xX7_tellName
          rw [has_y h.2.2.1 hc hj, bd_is, if_neg (by decide), h.2.2.2.2.2.1.1, hw, if_neg (by decide), if_neg (nI_pos (by omega)), if_pos (show nI j < (40 : Int32) from nI_lt (b := 40) (by omega) (by omega)), nI_clamp (by omega), ib_nI (show j < 40 by omega) (by omega)]
          rcases (show k = 0 ∨ k = 1 ∨ k = 2 ∨ k = 3 ∨ k = 4 ∨ k = 5 ∨ k = 6 ∨ k = 7 by omega) with rfl | rfl | rfl | rfl | rfl | rfl | rfl | rfl
          · rw [← hR.1]; rfl
          · rw [← hR.2.1]; rfl
          · rw [← hR.2.2.1]; rfl
          · rw [← hR.2.2.2.1]; rfl
          · rw [← hR.2.2.2.2.1]; rfl
          · rw [← hR.2.2.2.2.2.1]; rfl
          · rw [← hR.2.2.2.2.2.2.1]; rfl
          · rw [← hR.2.2.2.2.2.2.2]; rfl
        · have hR := h.2.2.2.2.2.1.2 hw
          unfold F_mX11_of
          have h1 : ¬ (nI j < 0 ∨ nI (q.1 3) - 1 < nI j) := by
            rw [in_pred (by omega)]
            intro z
            rcases z with z | z
            · exact nI_pos (by omega) z
            · exact nI_ge hj (by omega) z
          have h2 : ¬ (nI k < 0 ∨ 7 < nI k) := by
            intro z
            rcases z with z | z
            · exact nI_pos (by omega) z
            · rw [i_lt, i7, nI_toInt (by omega)] at z; omega
          have e8 : (8 : Int32) * nI j + nI k = nI (8 * j + k) := by rw [show (8 : Int32) = nI 8 from rfl, pk_mul, nI_add]
          rw [h.2.2.2.2.2.1.1, hw, if_neg (by decide), hR.1, in_is, if_neg h1, bd_is, if_neg (by decide), in_is, if_neg h2, bd_is, if_neg (by decide), e8, if_pos (ib_nI (by omega) (by omega)), nI_clamp (by omega), hR.2.2.2 j hj k hk]
      · refine ⟨-2147483647, q, hq, fun σ h => ⟨σ, ?_, h⟩, fun τ h => ⟨τ, ?_, h⟩⟩
        · unfold F_xX10_of F_xX7_tellName
          rw [has_y h.2.2.1 hc hj, bd_is, if_neg (by decide), h.2.2.2.2.2.1.1, hw, if_neg (by decide), if_neg (nI_pos (by omega)), if_pos (show nI j < (40 : Int32) from nI_lt (b := 40) (by omega) (by omega)), if_neg (show ¬ y = 0 from hy2 0 (by omega)), if_neg (show ¬ y = 1 from hy2 1 (by omega)), if_neg (show ¬ y = 2 from hy2 2 (by omega)), if_neg (show ¬ y = 3 from hy2 3 (by omega)), if_neg (show ¬ y = 4 from hy2 4 (by omega)), if_neg (show ¬ y = 5 from hy2 5 (by omega)), if_neg (show ¬ y = 6 from hy2 6 (by omega)), if_neg (show ¬ y = 7 from hy2 7 (by omega)), bd_is]
        · have hR := h.2.2.2.2.2.1.2 hw
          unfold F_mX11_of
          have h1 : ¬ (nI j < 0 ∨ nI (q.1 3) - 1 < nI j) := by
            rw [in_pred (by omega)]
            intro z
            rcases z with z | z
            · exact nI_pos (by omega) z
            · exact nI_ge hj (by omega) z
          have h2 : (y < 0 ∨ 7 < y) := by
            rcases hy with hy | hy
            · exact Or.inl hy
            · right
              rw [i_le, nI_toInt (by omega)] at hy
              rw [i_lt, i7]; omega
          rw [h.2.2.2.2.2.1.1, hw, if_neg (by decide), hR.1, in_is, if_neg h1, bd_is, if_neg (by decide), in_is, if_pos h2, bd_is, if_pos rfl]
    · refine ⟨-2147483647, q, hq, fun σ h => ⟨σ, ?_, h⟩, fun τ h => ⟨τ, ?_, h⟩⟩
      · unfold F_xX10_of
        rw [has_n h.2.2.1 hx, bd_is, if_pos rfl]
      · have hR := h.2.2.2.2.2.1.2 hw
        unfold F_mX11_of
        rw [h.2.2.2.2.2.1.1, hw, if_neg (by decide), hR.1, in_is, if_pos ((in_pred (by omega) x).mpr hx), bd_is, if_pos rfl]
