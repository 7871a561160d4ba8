/-! the short calls -/
theorem has_y {σ : St} {c en : Nat} {val : Nat → Int32} (h : XP c en val σ) (hc : c ≤ 40) {j : Nat} (hj : j < c) : F_xX5_has (nI j) σ = some (1, σ) := by
  unfold F_xX5_has
  rw [if_neg (nI_pos (by omega)), h.1, if_neg (nI_ge hj (by omega)), if_neg (show ¬ (40 : Int32) ≤ nI j from nI_ge (a := j) (b := 40) (by omega) (by omega))]
theorem has_n {σ : St} {c en : Nat} {val : Nat → Int32} (h : XP c en val σ) {x : Int32} (hx : x < 0 ∨ nI c ≤ x) : F_xX5_has x σ = some (0, σ) := by
  unfold F_xX5_has
  by_cases h0 : x < 0
  · rw [if_pos h0]
  · rw [if_neg h0, h.1, if_pos (hx.resolve_left h0)]
theorem in_is (x a b : Int32) (τ : St) : F_mX11_in x a b τ = some (if x < a ∨ b < x then 0 else 1, τ) := by
  unfold F_mX11_in
  by_cases h : x < a
  · rw [if_pos h, if_pos (Or.inl h)]
  · rw [if_neg h]
    by_cases h2 : b < x
    · rw [if_pos h2, if_pos (Or.inr h2)]
    · rw [if_neg h2, if_neg (by simp [h, h2])]
theorem pred_toInt {c : Nat} (hc : c ≤ 100000) : (nI c - 1).toInt = (c : Int) - 1 := by
  have h := nI_toInt (n := c) (by omega)
  have h1 : (1 : Int32).toInt = 1 := rfl
  rw [fb_subI (by omega) (by omega), h, h1]
theorem in_pred {c : Nat} (hc : c ≤ 100000) (x : Int32) : (x < 0 ∨ nI c - 1 < x) ↔ (x < 0 ∨ nI c ≤ x) := by
  have h := nI_toInt (n := c) (by omega)
  have h1 := pred_toInt hc
  rw [i_lt, i_lt, i_le, h, h1]
  omega
theorem isn_y {τ : St} {c en : Nat} {val : Nat → Int32} (h : MP c en val τ) (hc : c ≤ 40) {j : Nat} (hj : j < c) : F_mX11_isName (nI j) τ = some (1, τ) := by
  unfold F_mX11_isName
  have h2 : ¬ (nI j < 0 ∨ nI c - 1 < nI j) := by
    rw [in_pred (by omega)]
    intro q
    rcases q with q | q
    · exact nI_pos (by omega) q
    · exact nI_ge hj (by omega) q
  rw [in_is, h.1, bd_is, if_neg h2]
  rfl
theorem isn_n {τ : St} {c en : Nat} {val : Nat → Int32} (h : MP c en val τ) (hc : c ≤ 40) {x : Int32} (hx : x < 0 ∨ nI c ≤ x) : F_mX11_isName x τ = some (0, τ) := by
  unfold F_mX11_isName
  rw [in_is, h.1, bd_is, if_pos ((in_pred (by omega) x).mpr hx)]
  rfl
theorem api_value (x : Int32) : API (F_xX10_value x) (F_mX11_value x) := by
  intro q hq
  have hc : q.1 3 ≤ 40 := hq.2.2.1.1
  rcases nm_cases x (c := q.1 3) (by omega) with ⟨j, hj, rfl⟩ | ⟨hx, -⟩
  · refine ⟨q.2.2.2 1 j, q, hq, fun σ h => ⟨σ, ?_, h⟩, fun τ h => ⟨τ, ?_, h⟩⟩
    · unfold F_xX10_value
      rw [has_y h.2.2.1 hc hj, bd_is, if_neg (by decide), if_pos (ib_nI (by omega) (by omega)), nI_clamp (by omega), h.2.2.1.2.2 j hj]
    · unfold F_mX11_value
      rw [isn_y h.2.2.1 hc hj, bd_is, if_neg (by decide), if_pos (ib_nI (by omega) (by omega)), nI_clamp (by omega), h.2.2.1.2.2 j hj]
  · refine ⟨-2147483647, q, hq, fun σ h => ⟨σ, ?_, h⟩, fun τ h => ⟨τ, ?_, h⟩⟩
    · unfold F_xX10_value
      rw [has_n h.2.2.1 hx, bd_is, if_pos rfl]
    · unfold F_mX11_value
      rw [isn_n h.2.2.1 hc hx, bd_is, if_pos rfl]
theorem api_set (x v : Int32) : API (F_xX10_set x v) (F_mX11_set x v) := by
  intro q hq
  have hc : q.1 3 ≤ 40 := hq.2.2.1.1
  rcases nm_cases x (c := q.1 3) (by omega) with ⟨j, hj, rfl⟩ | ⟨hx, -⟩
  · refine ⟨1, aG q 1 (upd (q.2.2.2 1) j v), hq, fun σ h => ⟨sA σ 11 (upd (σ.2.1 11) j v), ?_, h.1, h.2.1, ⟨h.2.2.1.1, h.2.2.1.2.1, fun n hn => ?_⟩, h.2.2.2⟩, fun τ h => ⟨sA τ 6 (upd (τ.2.1 6) j v), ?_, h.1, h.2.1, ⟨h.2.2.1.1, h.2.2.1.2.1, fun n hn => ?_⟩, h.2.2.2⟩⟩
    · unfold F_xX10_set
      rw [has_y h.2.2.1 hc hj, bd_is, if_neg (by decide), if_pos (ib_nI (by omega) (by omega)), nI_clamp (by omega)]
    · show upd (σ.2.1 11) j v n = upd (q.2.2.2 1) j v n
      rw [u_is, u_is, h.2.2.1.2.2 n hn]
    · unfold F_mX11_set
      rw [isn_y h.2.2.1 hc hj, bd_is, if_neg (by decide), if_pos (ib_nI (by omega) (by omega)), nI_clamp (by omega)]
    · show upd (τ.2.1 6) j v n = upd (q.2.2.2 1) j v n
      rw [u_is, u_is, h.2.2.1.2.2 n hn]
  · refine ⟨-2, q, hq, fun σ h => ⟨σ, ?_, h⟩, fun τ h => ⟨τ, ?_, h⟩⟩
    · unfold F_xX10_set
      rw [has_n h.2.2.1 hx, bd_is, if_pos rfl]
    · unfold F_mX11_set
      rw [isn_n h.2.2.1 hc hx, bd_is, if_pos rfl]
theorem api_entry (x : Int32) : API (F_xX10_entry x) (F_mX11_entry x) := by
  intro q hq
  have hc : q.1 3 ≤ 40 := hq.2.2.1.1
  rcases nm_cases x (c := q.1 3) (by omega) with ⟨j, hj, rfl⟩ | ⟨hx, -⟩
  · refine ⟨nI (q.1 4), aN q 4 j, ⟨hq.1, hq.2.1, ⟨hc, hq.2.2.1.2.1, Or.inl hj⟩, hq.2.2.2⟩, fun σ h => ⟨sI σ 12 (nI j), ?_, h.1, h.2.1, ⟨h.2.2.1.1, rfl, h.2.2.1.2.2⟩, h.2.2.2⟩, fun τ h => ⟨sI τ 13 (nI j), ?_, h.1, h.2.1, ⟨h.2.2.1.1, rfl, h.2.2.1.2.2⟩, h.2.2.2⟩⟩
    · unfold F_xX10_entry
      rw [has_y h.2.2.1 hc hj, bd_is, if_neg (by decide), h.2.2.1.2.1]
    · unfold F_mX11_entry
      rw [isn_y h.2.2.1 hc hj, bd_is, if_neg (by decide), h.2.2.1.2.1]
  · refine ⟨-2, q, hq, fun σ h => ⟨σ, ?_, h⟩, fun τ h => ⟨τ, ?_, h⟩⟩
    · unfold F_xX10_entry
      rw [has_n h.2.2.1 hx, bd_is, if_pos rfl]
    · unfold F_mX11_entry
      rw [isn_n h.2.2.1 hc hx, bd_is, if_pos rfl]
theorem api_spot (x : Int32) : API (F_xX10_spot x) (F_mX11_spot x) := by
  intro q hq
  have hc : q.1 3 ≤ 40 := hq.2.2.1.1
  rcases nm_cases x (c := q.1 3) (by omega) with ⟨j, hj, rfl⟩ | ⟨hx, -⟩
  · refine ⟨nI (q.2.1 2 j), q, hq, fun σ h => ⟨σ, ?_, h⟩, fun τ h => ⟨τ, ?_, h⟩⟩
    · unfold F_xX10_spot
      rw [has_y h.2.2.1 hc hj, bd_is, if_neg (by decide), if_pos (ib_nI (by omega) (by omega)), nI_clamp (by omega), (h.2.2.2.1.2.1 j hj).1]
    · unfold F_mX11_spot
      rw [isn_y h.2.2.1 hc hj, bd_is, if_neg (by decide), if_pos (ib_nI (by omega) (by omega)), nI_clamp (by omega), h.2.2.2.1.1 j hj]
  · refine ⟨-2, q, hq, fun σ h => ⟨σ, ?_, h⟩, fun τ h => ⟨τ, ?_, h⟩⟩
    · unfold F_xX10_spot
      rw [has_n h.2.2.1 hx, bd_is, if_pos rfl]
    · unfold F_mX11_spot
      rw [isn_n h.2.2.1 hc hx, bd_is, if_pos rfl]
theorem api_end (x : Int32) : API (F_xX10_end x) (F_mX11_end x) := by
  intro q hq
  have hL : q.1 0 ≤ 1200 := hq.1
  by_cases h0 : x < 0
  · refine ⟨-1, q, hq, fun σ h => ⟨σ, ?_, h⟩, fun τ h => ⟨τ, ?_, h⟩⟩
    · unfold F_xX10_end; rw [if_pos h0]
    · unfold F_mX11_end; rw [if_pos h0]
  · obtain ⟨j, hj, rfl⟩ := nI_of h0
    by_cases h1 : j ≤ q.1 0
    · refine ⟨nI j, aN q 0 j, ⟨Nat.le_trans h1 hL, hq.2⟩, fun σ h => ⟨sI σ 0 (nI j), ?_, ⟨rfl, h.1.2⟩, h.2⟩, fun τ h => ⟨sI τ 0 (nI j), ?_, ⟨rfl, h.1.2⟩, h.2⟩⟩
      · unfold F_xX10_end; rw [if_neg h0, h.1.1, if_pos (nI_le h1 (by omega))]
      · unfold F_mX11_end; rw [if_neg h0, h.1.1, if_pos (nI_le h1 (by omega))]
    · refine ⟨-1, q, hq, fun σ h => ⟨σ, ?_, h⟩, fun τ h => ⟨τ, ?_, h⟩⟩
      · unfold F_xX10_end; rw [if_neg h0, h.1.1, if_neg (nI_ge (by omega) hj)]
      · unfold F_mX11_end; rw [if_neg h0, h.1.1, if_neg (nI_ge (by omega) hj)]
theorem api_fault (x : Int32) : API (F_xX10_fault x) (F_mX11_fault x) := by
  intro q hq
  refine ⟨if x = 0 then q.2.2.1 0 else if x = 1 then q.2.2.1 1 else -1, q, hq, fun σ h => ⟨σ, ?_, h⟩, fun τ h => ⟨τ, ?_, h⟩⟩
  · unfold F_xX10_fault
    rw [h.1.2.2.1, h.1.2.2.2]
    by_cases h0 : x = 0
    · rw [if_pos h0, if_pos h0]
    · rw [if_neg h0, if_neg h0]
      by_cases h1 : x = 1
      · rw [if_pos h1, if_pos h1]
      · rw [if_neg h1, if_neg h1]
  · unfold F_mX11_fault
    rw [h.1.2.2.1, h.1.2.2.2]
    by_cases h0 : x = 0
    · rw [if_pos h0, if_pos h0]
    · rw [if_neg h0, if_neg h0]
      by_cases h1 : x = 1
      · rw [if_pos h1, if_pos h1]
      · rw [if_neg h1, if_neg h1]
