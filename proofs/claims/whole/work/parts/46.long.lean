/-! longest -/
def lgE (w : Nat) (rd : Nat → Nat) (c en : Nat) (val : Nat → Int32) (sp : Nat → Nat) (j : Nat) (x : Int32) (k : Nat) : Int32 :=
  if rend c 2000 (m0 (upd val j (x + nI k)) en) = 0 then nI (tmS w rd c en (upd val j (x + nI k)) sp) else -1
def lgB (E : Nat → Int32) : Nat → Int32
  | 0 => -1
  | k + 1 => if E k ≤ lgB E k then lgB E k else E k
def lgW (E : Nat → Int32) : Nat → Nat
  | 0 => 0
  | k + 1 => if E k ≤ lgB E k then lgW E k else k
def lgR (x x4 : Int32) (E : Nat → Int32) (k : Nat) : Int32 := if lgB E k = -1 then -4 else if x4 = 0 then lgB E k else x + nI (lgW E k)
theorem lgB_ge {E : Nat → Int32} (hE : ∀ k, (-1 : Int32) ≤ E k) : ∀ k, (-1 : Int32) ≤ lgB E k
  | 0 => by unfold lgB; decide
  | k + 1 => by
    unfold lgB
    by_cases h : E k ≤ lgB E k
    · rw [if_pos h]; exact lgB_ge hE k
    · rw [if_neg h]; exact hE k
theorem lgE_ge {w t : Nat} {rd pl : Nat → Nat} (hd : DOK w t rd pl) {c en : Nat} {val : Nat → Int32} {sp : Nat → Nat} (hc : c ≤ 40) (hen : en < c) (hs : ∀ n, n < c → there w t pl (sp n)) (j : Nat) (x : Int32) (k : Nat) : (-1 : Int32) ≤ lgE w rd c en val sp j x k := by
  unfold lgE
  by_cases h : rend c 2000 (m0 (upd val j (x + nI k)) en) = 0
  · rw [if_pos h]
    have h1 := tmS_le (rd := rd) (en := en) (val := upd val j (x + nI k)) hd hc hen hs
    rw [i_le, nI_toInt (by omega), show (-1 : Int32).toInt = -1 from rfl]
    omega
  · rw [if_neg h]
    decide
theorem rend_le (c : Nat) : ∀ (k : Nat) (m : Ms), rend c k m ≤ 2
  | 0, m => by unfold rend; omega
  | k + 1, m => by
    unfold rend
    by_cases h : fin c m = 2
    · rw [if_pos h]; exact rend_le c k _
    · rw [if_neg h]; exact fin_le c m
theorem upd_upd (f : Nat → Int32) (j : Nat) (a b : Int32) : upd (upd f j a) j b = upd f j b := by
  funext n
  rw [u_is, u_is, u_is]
  by_cases h : n = j
  · rw [if_pos h, if_pos h]
  · rw [if_neg h, if_neg h, if_neg h]
theorem upd_self (f : Nat → Int32) (j : Nat) : upd f j (f j) = f := by
  funext n
  rw [u_is]
  by_cases h : n = j
  · rw [if_pos h, h]
  · rw [if_neg h]
theorem aG_aG (q : Ab) (f g : Nat → Int32) : aG (aG q 1 f) 1 g = aG q 1 g := by
  show (q.1, q.2.1, q.2.2.1, vf_upd (vf_upd q.2.2.2 1 f) 1 g) = (q.1, q.2.1, q.2.2.1, vf_upd q.2.2.2 1 g)
  rw [vf2]
theorem aG_self (q : Ab) : aG q 1 (q.2.2.2 1) = q := by
  show (q.1, q.2.1, q.2.2.1, vf_upd q.2.2.2 1 (q.2.2.2 1)) = q
  rw [vf_self]
theorem AX_val {q : Ab} {σ : St} {j : Nat} (v : Int32) (h : AX q σ) : AX (aG q 1 (upd (q.2.2.2 1) j v)) (sA σ 11 (upd (σ.2.1 11) j v)) := by
  refine ⟨h.1, h.2.1, ⟨h.2.2.1.1, h.2.2.1.2.1, fun n hn => ?_⟩, h.2.2.2⟩
  show upd (σ.2.1 11) j v n = upd (q.2.2.2 1) j v n
  rw [u_is, u_is, h.2.2.1.2.2 n hn]
theorem AM_val {q : Ab} {τ : St} {j : Nat} (v : Int32) (h : AM q τ) : AM (aG q 1 (upd (q.2.2.2 1) j v)) (sA τ 6 (upd (τ.2.1 6) j v)) := by
  refine ⟨h.1, h.2.1, ⟨h.2.2.1.1, h.2.2.1.2.1, fun n hn => ?_⟩, h.2.2.2⟩
  show upd (τ.2.1 6) j v n = upd (q.2.2.2 1) j v n
  rw [u_is, u_is, h.2.2.1.2.2 n hn]
theorem x_long64 {q : Ab} (hq : OKq q) {j : Nat} (hj : j < q.1 3) {x2 x3 x4 : Int32} {D : Nat} (hD : x3 - x2 = nI D) (hD2 : D ≤ 100) : ∀ (n k : Nat) (σ : St) (y : Int32), k ≤ D + 1 → D + 1 < n + k → AX (aG q 1 (upd (q.2.2.2 1) j y)) σ →
    ∃ σ', F_xX10_longest_64 n (nI j) x2 x3 x4 (q.2.2.2 1 j) (lgB (lgE (q.1 1) (q.2.1 0) (q.1 3) (q.1 4) (q.2.2.2 1) (q.2.1 2) j x2) k) (x2 + nI (lgW (lgE (q.1 1) (q.2.1 0) (q.1 3) (q.1 4) (q.2.2.2 1) (q.2.1 2) j x2) k)) (nI k) σ = some (lgR x2 x4 (lgE (q.1 1) (q.2.1 0) (q.1 3) (q.1 4) (q.2.2.2 1) (q.2.1 2) j x2) (D + 1), σ') ∧ AX q σ' := by
  have hc : q.1 3 ≤ 40 := hq.2.2.1.1
  have hen := en_lt hq (by omega)
  intro n
  induction n with
  | zero => intro k σ y h1 h2 _; omega
  | succ n ih =>
    intro k σ y h1 h2 h
    unfold F_xX10_longest_64
    rw [hD, nI_clamp (n := j) (by omega)]
    by_cases hk : D < k
    · rw [if_pos ((nI_ltI (by omega) (by omega)).mpr hk), if_pos (ib_nI (by omega) (by omega))]
      have e : k = D + 1 := by omega
      subst e
      refine ⟨sA σ 11 (upd (σ.2.1 11) j (q.2.2.2 1 j)), ?_, ?_⟩
      · unfold lgR
        by_cases h5 : lgB (lgE (q.1 1) (q.2.1 0) (q.1 3) (q.1 4) (q.2.2.2 1) (q.2.1 2) j x2) (D + 1) = -1
        · rw [if_pos h5, if_pos h5]
        · rw [if_neg h5, if_neg h5]
          by_cases h6 : x4 = 0
          · rw [if_pos h6, if_pos h6]
          · rw [if_neg h6, if_neg h6]
      · have h7 := AX_val (j := j) (q.2.2.2 1 j) h
        rw [aG_aG, show (aG q 1 (upd (q.2.2.2 1) j y)).2.2.2 1 = upd (q.2.2.2 1) j y from rfl, upd_upd, upd_self, aG_self] at h7
        exact h7
    · rw [if_neg (fun z => hk ((nI_ltI (by omega) (by omega)).mp z)), if_pos (ib_nI (by omega) (by omega))]
      have h7 := AX_val (j := j) (x2 + nI k) h
      rw [aG_aG, show (aG q 1 (upd (q.2.2.2 1) j y)).2.2.2 1 = upd (q.2.2.2 1) j y from rfl, upd_upd] at h7
      obtain ⟨σ', a1, a2, a3, a4, -, a6⟩ := x_follow (en := q.1 4) (val := upd (q.2.2.2 1) j (x2 + nI k)) hc h7.2.2.1 hen
      have hX := h7.fr a2 (by decide) (by decide)
      rw [a1, bv_is, a4]
      have go : ∀ v, v = lgE (q.1 1) (q.2.1 0) (q.1 3) (q.1 4) (q.2.2.2 1) (q.2.1 2) j x2 k → ∃ σ'', F_xX10_longest_121 (F_xX10_longest_64 n) (nI j) x2 x3 x4 (q.2.2.2 1 j) (lgB (lgE (q.1 1) (q.2.1 0) (q.1 3) (q.1 4) (q.2.2.2 1) (q.2.1 2) j x2) k) (x2 + nI (lgW (lgE (q.1 1) (q.2.1 0) (q.1 3) (q.1 4) (q.2.2.2 1) (q.2.1 2) j x2) k)) (nI k) v σ' = some (lgR x2 x4 (lgE (q.1 1) (q.2.1 0) (q.1 3) (q.1 4) (q.2.2.2 1) (q.2.1 2) j x2) (D + 1), σ'') ∧ AX q σ'' := by
        intro v hv
        obtain ⟨σ'', b1, b2⟩ := ih (k + 1) σ' (x2 + nI k) (by omega) (by omega) hX
        refine ⟨σ'', ?_, b2⟩
        unfold F_xX10_longest_121
        rw [hv, ← nI_succ]
        unfold lgB lgW at b1
        by_cases h5 : lgE (q.1 1) (q.2.1 0) (q.1 3) (q.1 4) (q.2.2.2 1) (q.2.1 2) j x2 k ≤ lgB (lgE (q.1 1) (q.2.1 0) (q.1 3) (q.1 4) (q.2.2.2 1) (q.2.1 2) j x2) k
        · rw [if_pos h5, if_pos h5] at b1
          rw [if_pos h5, b1]
        · rw [if_neg h5, if_neg h5] at b1
          rw [if_neg h5, b1]
      by_cases hr : rend (q.1 3) 2000 (m0 (upd (q.2.2.2 1) j (x2 + nI k)) (q.1 4)) = 0
      · rw [hr, if_pos nI_0, show F_xX3_timeOf σ' = _ from x_timeOf (sp := q.2.1 2) hq.2.1 hc hen hq.2.2.2.1.1 (XS_of (q := aG q 1 (upd (q.2.2.2 1) j (x2 + nI k))) hX : XS (q.1 1) (q.2.1 0) (q.1 3) (q.2.1 2) σ') a3 a6, bd_is]
        exact go _ (by unfold lgE; rw [if_pos hr])
      · rw [if_neg (nI_ne0 (by omega) (by
          have : ∀ (k : Nat) (m : Ms), rend (q.1 3) k m ≤ 2 := rend_le (q.1 3)
          have := this 2000 (m0 (upd (q.2.2.2 1) j (x2 + nI k)) (q.1 4))
          omega))]
        exact go _ (by unfold lgE; rw [if_neg hr])
theorem i64_succ {x : Int64} {a : Int} (h : x.toInt = a) (h1 : -2 ^ 40 < a) (h2 : a < 2 ^ 40) : (x + 1).toInt = a + 1 := by
  rw [Int64.toInt_add, h, show (1 : Int64).toInt = 1 from rfl, Int.bmod_eq_of_le (by omega) (by omega)]
theorem m_long58 {q : Ab} (hq : OKq q) {j : Nat} (hj : j < q.1 3) {x2 x3 x4 : Int32} {D : Nat} (hD : x3.toInt = x2.toInt + D) (hD2 : D ≤ 100) : ∀ (n k : Nat) (τ : St) (y x7 : Int32) (x8 : Int64), k ≤ D + 1 → D + 1 < n + k → x8.toInt = x2.toInt + k → x8.toInt32 = x2 + nI k → (lgB (lgE (q.1 1) (q.2.1 0) (q.1 3) (q.1 4) (q.2.2.2 1) (q.2.1 2) j x2) k ≠ -1 → x7 = x2 + nI (lgW (lgE (q.1 1) (q.2.1 0) (q.1 3) (q.1 4) (q.2.2.2 1) (q.2.1 2) j x2) k)) → AM (aG q 1 (upd (q.2.2.2 1) j y)) τ →
    ∃ τ', F_mX11_longest_58 n (nI j) x3 x4 (q.2.2.2 1 j) (lgB (lgE (q.1 1) (q.2.1 0) (q.1 3) (q.1 4) (q.2.2.2 1) (q.2.1 2) j x2) k) x7 x8 τ = some (lgR x2 x4 (lgE (q.1 1) (q.2.1 0) (q.1 3) (q.1 4) (q.2.2.2 1) (q.2.1 2) j x2) (D + 1), τ') ∧ AM q τ' := by
  have hc : q.1 3 ≤ 40 := hq.2.2.1.1
  have hen := en_lt hq (by omega)
  have hx2 := Int32.le_toInt x2
  have hx2' := Int32.toInt_lt x2
  intro n
  induction n with
  | zero => intro k τ y x7 x8 h1 h2 _; omega
  | succ n ih =>
    intro k τ y x7 x8 h1 h2 h8 h8' h77 h
    unfold F_mX11_longest_58
    have hlt : (0 < lg_cmp x8 (Int32.toInt64 x3)) ↔ D < k := by
      rw [lg_cmp_gt, Int64.lt_iff_toInt_lt, Int32.toInt_toInt64, h8, hD]
      omega
    rw [nI_clamp (n := j) (by omega)]
    by_cases hk : D < k
    · rw [if_pos (hlt.mpr hk), if_pos (ib_nI (by omega) (by omega))]
      have e : k = D + 1 := by omega
      subst e
      refine ⟨sA τ 6 (upd (τ.2.1 6) j (q.2.2.2 1 j)), ?_, ?_⟩
      · unfold lgR
        by_cases h5 : lgB (lgE (q.1 1) (q.2.1 0) (q.1 3) (q.1 4) (q.2.2.2 1) (q.2.1 2) j x2) (D + 1) = -1
        · rw [if_pos h5, if_pos h5]
        · rw [if_neg h5, if_neg h5, h77 h5]
          by_cases h6 : x4 = 0
          · rw [if_pos h6, if_pos h6]
          · rw [if_neg h6, if_neg h6]
      · have h7 := AM_val (j := j) (q.2.2.2 1 j) h
        rw [aG_aG, show (aG q 1 (upd (q.2.2.2 1) j y)).2.2.2 1 = upd (q.2.2.2 1) j y from rfl, upd_upd, upd_self, aG_self] at h7
        exact h7
    · rw [if_neg (fun z => hk (hlt.mp z)), if_pos (ib_nI (by omega) (by omega)), h8']
      have h7 := AM_val (j := j) (x2 + nI k) h
      rw [aG_aG, show (aG q 1 (upd (q.2.2.2 1) j y)).2.2.2 1 = upd (q.2.2.2 1) j y from rfl, upd_upd] at h7
      obtain ⟨τ', a1, a2, -, a4, -, a6⟩ := m_goes (en := q.1 4) (val := upd (q.2.2.2 1) j (x2 + nI k)) (sp := q.2.1 2) hq.2.1 hq.2.2.2.1.1 hc hen h7.2.1 h7.2.2.1 h7.2.2.2.1.1
      have hX := h7.fr a2 (by decide) (by decide)
      rw [a1, bv_is, a4, a6.1, stL_t]
      have n8 : (x8 + 1).toInt = x2.toInt + ((k + 1 : Nat) : Int) := by rw [i64_succ h8 (by omega) (by omega)]; omega
      have n8' : (x8 + 1).toInt32 = x2 + nI (k + 1) := by
        rw [lg_l2i_add, h8', show Int64.toInt32 1 = 1 from rfl, nI_succ, Int32.add_assoc]
      have hge := lgB_ge (lgE_ge (val := q.2.2.2 1) hq.2.1 hc hen hq.2.2.2.1.1 j x2) k
      have ih' := fun z => ih (k + 1) τ' (x2 + nI k) z (x8 + 1) (by omega) (by omega) n8 n8'
      unfold lgB lgW at ih'
      by_cases hr : rend (q.1 3) 2000 (m0 (upd (q.2.2.2 1) j (x2 + nI k)) (q.1 4)) = 0
      · have hE : lgE (q.1 1) (q.2.1 0) (q.1 3) (q.1 4) (q.2.2.2 1) (q.2.1 2) j x2 k = nI (tmS (q.1 1) (q.2.1 0) (q.1 3) (q.1 4) (upd (q.2.2.2 1) j (x2 + nI k)) (q.2.1 2)) := by unfold lgE; rw [if_pos hr]
        rw [hr, if_pos nI_0, show nI (tmL (phF (q.1 1) (q.2.1 2)) (rnF (q.1 1) (q.2.1 0) (q.2.1 2)) (rev (q.1 3) 2000 (m0 (upd (q.2.2.2 1) j (x2 + nI k)) (q.1 4))) S0.1) = lgE (q.1 1) (q.2.1 0) (q.1 3) (q.1 4) (q.2.2.2 1) (q.2.1 2) j x2 k from hE.symm]
        by_cases h5 : lgE (q.1 1) (q.2.1 0) (q.1 3) (q.1 4) (q.2.2.2 1) (q.2.1 2) j x2 k ≤ lgB (lgE (q.1 1) (q.2.1 0) (q.1 3) (q.1 4) (q.2.2.2 1) (q.2.1 2) j x2) k
        · rw [if_neg (fun z => by rw [i_lt] at z; rw [i_le] at h5; omega)]
          rw [if_pos h5, if_pos h5] at ih'
          exact ih' x7 h77 hX
        · rw [if_pos (by rw [i_lt]; rw [i_le] at h5; omega)]
          rw [if_neg h5, if_neg h5] at ih'
          exact ih' _ (fun _ => rfl) hX
      · have hE : lgE (q.1 1) (q.2.1 0) (q.1 3) (q.1 4) (q.2.2.2 1) (q.2.1 2) j x2 k = -1 := by unfold lgE; rw [if_neg hr]
        have hle : lgE (q.1 1) (q.2.1 0) (q.1 3) (q.1 4) (q.2.2.2 1) (q.2.1 2) j x2 k ≤ lgB (lgE (q.1 1) (q.2.1 0) (q.1 3) (q.1 4) (q.2.2.2 1) (q.2.1 2) j x2) k := by rw [hE]; exact hge
        rw [if_neg (nI_ne0 (by omega) (by
          have := rend_le (q.1 3) 2000 (m0 (upd (q.2.2.2 1) j (x2 + nI k)) (q.1 4))
          omega))]
        rw [if_pos hle, if_pos hle] at ih'
        exact ih' x7 h77 hX
theorem api_longest (x1 x2 x3 x4 : Int32) : API (F_xX10_longest x1 x2 x3 x4) (F_mX11_longest x1 x2 x3 x4) := by
  intro q hq
  have hc : q.1 3 ≤ 40 := hq.2.2.1.1
  rcases nm_cases x1 (c := q.1 3) (by omega) with ⟨j, hj, rfl⟩ | ⟨hx, -⟩
  · by_cases h32 : x3 < x2
    · refine ⟨-2, q, hq, fun σ h => ⟨σ, ?_, h⟩, fun τ h => ⟨τ, ?_, h⟩⟩
      · unfold F_xX10_longest
        rw [has_y h.2.2.1 hc hj, bd_is, if_neg (by decide), if_pos h32]
      · unfold F_mX11_longest
        rw [isn_y h.2.2.1 hc hj, bd_is, if_neg (by decide), if_pos h32]
    · by_cases hl : lg_cmp (Int32.toInt64 x3 - Int32.toInt64 x2) (100 : Int64) ≤ 0
      · by_cases h4 : x4 < 0 ∨ 1 < x4
        · have h40 : ¬ x4 = 0 := fun e => by rw [e] at h4; revert h4; decide
          have h41 : ¬ x4 = 1 := fun e => by rw [e] at h4; revert h4; decide
          refine ⟨-1, q, hq, fun σ h => ⟨σ, ?_, h⟩, fun τ h => ⟨τ, ?_, h⟩⟩
          · unfold F_xX10_longest
            rw [has_y h.2.2.1 hc hj, bd_is, if_neg (by decide), if_neg h32, if_pos hl, if_neg h40, if_neg h41]
          · unfold F_mX11_longest
            rw [isn_y h.2.2.1 hc hj, bd_is, if_neg (by decide), if_neg h32, if_pos hl, in_is, if_pos h4, bd_is, if_pos rfl]
        · have h01 : x4 = 0 ∨ x4 = 1 := by
            rw [i_lt, i_lt] at h4
            rw [i_eq, i_eq]
            have : (0 : Int32).toInt = 0 := rfl
            have : (1 : Int32).toInt = 1 := rfl
            omega
          rw [i_lt] at h32
          have hl2 := hl
          rw [lg_cmp_le, Int64.le_iff_toInt_le, lg_i2l_sub, show (100 : Int64).toInt = 100 from rfl] at hl2
          obtain ⟨D, hD⟩ : ∃ D : Nat, (D : Int) = x3.toInt - x2.toInt := ⟨(x3.toInt - x2.toInt).toNat, by omega⟩
          have hD2 : D ≤ 100 := by omega
          have hD3 : x3 - x2 = nI D := of_toInt (by omega) (by rw [fb_subI (by omega) (by omega)]; omega)
          refine ⟨lgR x2 x4 (lgE (q.1 1) (q.2.1 0) (q.1 3) (q.1 4) (q.2.2.2 1) (q.2.1 2) j x2) (D + 1), q, hq, fun σ h => ?_, fun τ h => ?_⟩
          · have h' := h
            rw [← aG_self q, ← upd_self (q.2.2.2 1) j] at h'
            obtain ⟨σ', a1, a2⟩ := x_long64 hq hj (x4 := x4) hD3 hD2 FU 0 σ _ (by omega) (by rw [FU_is]; omega) h'
            refine ⟨σ', ?_, a2⟩
            unfold F_xX10_longest
            rw [has_y h.2.2.1 hc hj, bd_is, if_neg (by decide), if_neg (by rw [i_lt]; exact h32), if_pos hl]
            have go : F_xX10_longest_44 (nI j) x2 x3 x4 σ = some (lgR x2 x4 (lgE (q.1 1) (q.2.1 0) (q.1 3) (q.1 4) (q.2.2.2 1) (q.2.1 2) j x2) (D + 1), σ') := by
              unfold F_xX10_longest_44
              rw [if_pos (ib_nI (by omega) (by omega)), nI_clamp (by omega), h.2.2.1.2.2 j hj, ← a1]
              unfold lgB lgW
              rw [nI_0, Int32.add_zero]
            rcases h01 with e | e
            · rw [if_pos e, go]
            · rw [if_neg (by rw [e]; decide), if_pos e, go]
          · have h' := h
            rw [← aG_self q, ← upd_self (q.2.2.2 1) j] at h'
            obtain ⟨τ', a1, a2⟩ := m_long58 hq hj (x2 := x2) (x3 := x3) (x4 := x4) (by omega) hD2 FU 0 τ _ 0 x2.toInt64 (by omega) (by rw [FU_is]; omega) (by rw [Int32.toInt_toInt64]; omega) (by rw [lg_l2i_i2l, nI_0, Int32.add_zero]) (fun z => absurd rfl z) h'
            refine ⟨τ', ?_, a2⟩
            unfold F_mX11_longest
            rw [isn_y h.2.2.1 hc hj, bd_is, if_neg (by decide), if_neg (by rw [i_lt]; exact h32), if_pos hl, in_is, if_neg h4, bd_is, if_neg (by decide), if_pos (ib_nI (by omega) (by omega)), nI_clamp (by omega), h.2.2.1.2.2 j hj, ← a1]
            rfl
      · refine ⟨-2, q, hq, fun σ h => ⟨σ, ?_, h⟩, fun τ h => ⟨τ, ?_, h⟩⟩
        · unfold F_xX10_longest
          rw [has_y h.2.2.1 hc hj, bd_is, if_neg (by decide), if_neg h32, if_neg hl]
        · unfold F_mX11_longest
          rw [isn_y h.2.2.1 hc hj, bd_is, if_neg (by decide), if_neg h32, if_neg hl]
  · refine ⟨-2, q, hq, fun σ h => ⟨σ, ?_, h⟩, fun τ h => ⟨τ, ?_, h⟩⟩
    · unfold F_xX10_longest
      rw [has_n h.2.2.1 hx, bd_is, if_pos rfl]
    · unfold F_mX11_longest
      rw [isn_n h.2.2.1 hc hx, bd_is, if_pos rfl]
