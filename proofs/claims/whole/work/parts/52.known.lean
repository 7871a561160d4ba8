/-! known -/
abbrev Kz : Type := (Nat → Bool) × (Nat → Bool) × Nat × (Nat → Nat)
def rch (c : Nat) (val : Nat → Int32) (n : Nat) (z : Kz) : Kz := if z.1 n = true ∨ wrg c (val n) = true then z else (fun k => if k = n then true else z.1 k, z.2.1, z.2.2.1 + 1, vf_upd z.2.2.2 z.2.2.1 n)
def numK (n : Nat) (z : Kz) : Kz := (z.1, fun k => if k = n then true else z.2.1 k, z.2.2)
def knT (c : Nat) (val : Nat → Int32) (v : Int32) (z : Kz) : Kz :=
  if opN v = 0 then z else if opN v = 6 ∨ opN v = 7 then rch c val (wdN v) (rch c val (nxN v) z) else if opN v ≤ 5 then numK (wdN v) (rch c val (nxN v) z) else rch c val (nxN v) z
def knL (c : Nat) (val : Nat → Int32) : Nat → Nat → Kz → Kz
  | 0, _, z => z
  | f + 1, k, z => if k < z.2.2.1 then knL c val f (k + 1) (knT c val (val (z.2.2.2 k)) z) else z
def kv (z : Kz) (n : Nat) : Int32 := nI ((if z.1 n then 1 else 0) + (if z.2.1 n then 2 else 0))
def KZ (c : Nat) (val : Nat → Int32) (z : Kz) : Prop := z.2.2.1 = fb_ct z.1 c ∧ ∀ k, k < z.2.2.1 → z.2.2.2 k < c ∧ ¬ wrg c (val (z.2.2.2 k)) = true
theorem KZ_le {c : Nat} {val : Nat → Int32} {z : Kz} (h : KZ c val z) : z.2.2.1 ≤ c := by rw [h.1]; exact fb_ct_le _ _
theorem rch_n {c : Nat} {val : Nat → Int32} {n : Nat} {z : Kz} (h : ¬ (z.1 n = true ∨ wrg c (val n) = true)) : rch c val n z = (fun k => if k = n then true else z.1 k, z.2.1, z.2.2.1 + 1, vf_upd z.2.2.2 z.2.2.1 n) := by
  unfold rch; rw [if_neg h]
theorem KZ_rch {c : Nat} {val : Nat → Int32} {n : Nat} {z : Kz} (hn : n < c) (h : KZ c val z) : KZ c val (rch c val n z) := by
  by_cases hc : z.1 n = true ∨ wrg c (val n) = true
  · unfold rch; rw [if_pos hc]; exact h
  · rw [rch_n hc]
    refine ⟨?_, fun k hk => ?_⟩
    · have h2 := fb_ct_upd z.1 true hn
      rw [if_neg (fun e => hc (Or.inl e)), if_pos rfl] at h2
      show z.2.2.1 + 1 = fb_ct (fun k => if k = n then true else z.1 k) c
      rw [h.1]; omega
    · show (if k = z.2.2.1 then n else z.2.2.2 k) < c ∧ ¬ wrg c (val (if k = z.2.2.1 then n else z.2.2.2 k)) = true
      by_cases e : k = z.2.2.1
      · rw [if_pos e]; exact ⟨hn, fun e => hc (Or.inr e)⟩
      · rw [if_neg e]; exact h.2 k (by have : k < z.2.2.1 + 1 := hk; omega)
theorem KZ_num {c : Nat} {val : Nat → Int32} {n : Nat} {z : Kz} (h : KZ c val z) : KZ c val (numK n z) := h
theorem KZ_T {c : Nat} {val : Nat → Int32} {v : Int32} {z : Kz} (hv : ¬ wrg c v = true) (h : KZ c val z) : KZ c val (knT c val v z) := by
  obtain ⟨-, h1, h2, h3⟩ := wrg_f hv
  unfold knT
  by_cases o0 : opN v = 0
  · rw [if_pos o0]; exact h
  · rw [if_neg o0]
    by_cases o6 : opN v = 6 ∨ opN v = 7
    · rw [if_pos o6]; exact KZ_rch h2 (KZ_rch h3 h)
    · rw [if_neg o6]
      by_cases o5 : opN v ≤ 5
      · rw [if_pos o5]; exact KZ_num (KZ_rch h3 h)
      · rw [if_neg o5]; exact KZ_rch h3 h
theorem kv_0 (z : Kz) (n : Nat) : (kv z n &&& 1 = 0) ↔ z.1 n = false := by
  unfold kv
  cases z.1 n <;> cases z.2.1 n <;> decide
theorem kv_1 (z : Kz) (n : Nat) : (kv z n &&& 1 = 1) ↔ z.1 n = true := by
  unfold kv
  cases z.1 n <;> cases z.2.1 n <;> decide
theorem kv_o1 {z : Kz} {n : Nat} (z' : Kz) (h : z.1 n = false) (h1 : z'.1 n = true) (h2 : z'.2.1 = z.2.1) : kv z n ||| 1 = kv z' n := by
  unfold kv
  rw [h, h1, h2]
  cases z.2.1 n <;> decide
theorem kv_o2 (z : Kz) (n : Nat) : kv z n ||| 2 = kv (numK n z) n := by
  unfold kv numK
  simp only [if_pos]
  cases z.1 n <;> cases z.2.1 n <;> decide
theorem kv_cong {z z' : Kz} {n : Nat} (h1 : z'.1 n = z.1 n) (h2 : z'.2.1 n = z.2.1 n) : kv z' n = kv z n := by
  unfold kv; rw [h1, h2]
def XKn (c : Nat) (z : Kz) (σ : St) : Prop := (∀ n, n < c → σ.2.1 12 n = kv z n) ∧ σ.1 13 = nI z.2.2.1 ∧ ∀ k, k < z.2.2.1 → σ.2.1 13 k = nI (z.2.2.2 k)
def MKn (c : Nat) (z : Kz) (τ : St) : Prop := (∀ n, n < c → τ.2.1 29 n = kv z n) ∧ ∀ k, k < z.2.2.1 → τ.2.1 30 k = nI (z.2.2.2 k)
theorem x_reach {c en : Nat} {val : Nat → Int32} {σ : St} {z : Kz} {n : Nat} (hc : c ≤ 40) (hn : n < c) (hP : XP c en val σ) (hK : KZ c val z) (h : XKn c z σ) : ∃ σ', F_xX5_reach (nI n) σ = some σ' ∧ fr1 [13] [12, 13] σ σ' ∧ XKn c (rch c val n z) σ' := by
  unfold F_xX5_reach
  rw [has_y hP hc hn, bd_is, if_neg (by decide), if_pos (ib_nI (by omega) (by omega)), nI_clamp (by omega), h.1 n hn]
  by_cases h0 : z.1 n = false
  · rw [if_pos ((kv_0 z n).mpr h0), hP.2.2 n hn, x_ord hP hc, bd_is]
    by_cases hw : wrg c (val n) = true
    · rw [if_pos hw, if_pos rfl]
      refine ⟨σ, rfl, fr1.rf, ?_⟩
      unfold rch; rw [if_pos (Or.inr hw)]; exact h
    · have hle := KZ_le (KZ_rch hn hK)
      have hr := rch_n (c := c) (val := val) (n := n) (z := z) (fun e => e.elim (fun e => by rw [h0] at e; cases e) hw)
      rw [hr] at hle
      have hle : z.2.2.1 + 1 ≤ c := hle
      rw [if_neg hw, if_neg (by decide), h.2.1, if_neg (nI_pos (by omega)), if_neg (show ¬ (40 : Int32) ≤ nI z.2.2.1 from nI_ge (a := z.2.2.1) (b := 40) (by omega) (by omega)), if_pos (ib_nI (by omega) (by omega)), nI_clamp (by omega), ← nI_succ]
      refine ⟨_, rfl, ((fr1.rf.sI (by decide)).sA (by decide)).sA (by decide), ?_⟩
      rw [hr]
      refine ⟨fun m hm => ?_, rfl, fun k hk => ?_⟩
      · show upd (σ.2.1 12) n (σ.2.1 12 n ||| 1) m = _
        rw [u_is]
        by_cases e : m = n
        · rw [if_pos e, e, h.1 n hn]
          exact kv_o1 _ h0 (if_pos rfl) rfl
        · rw [if_neg e, h.1 m hm]
          refine (kv_cong ?_ ?_).symm
          · exact if_neg e
          · rfl
      · show upd (σ.2.1 13) z.2.2.1 (nI n) k = nI (if k = z.2.2.1 then n else z.2.2.2 k)
        rw [u_is]
        by_cases e : k = z.2.2.1
        · rw [if_pos e, if_pos e]
        · rw [if_neg e, if_neg e]; exact h.2.2 k (by have : k < z.2.2.1 + 1 := hk; omega)
  · rw [if_neg (fun e => h0 ((kv_0 z n).mp e))]
    refine ⟨σ, rfl, fr1.rf, ?_⟩
    unfold rch; rw [if_pos (Or.inl (by simpa using h0))]; exact h
theorem m_reach {c en : Nat} {val : Nat → Int32} {τ : St} {z : Kz} {n : Nat} (hc : c ≤ 40) (hn : n < c) (hP : MP c en val τ) (hK : KZ c val z) (h : MKn c z τ) : ∃ τ', F_mX11_reach (nI n) (nI z.2.2.1) τ = some (nI (rch c val n z).2.2.1, τ') ∧ fr1 [] [29, 30] τ τ' ∧ MKn c (rch c val n z) τ' := by
  unfold F_mX11_reach
  rw [if_pos (ib_nI (by omega) (by omega)), nI_clamp (by omega), h.1 n hn]
  by_cases h0 : z.1 n = true
  · rw [if_pos ((kv_1 z n).mpr h0)]
    have e : rch c val n z = z := by unfold rch; rw [if_pos (Or.inl h0)]
    rw [e]
    exact ⟨τ, rfl, fr1.rf, h⟩
  · rw [if_neg (fun e => h0 ((kv_1 z n).mp e)), hP.2.2 n hn, m_ord hP.1 hc, bd_is]
    by_cases hw : wrg c (val n) = true
    · rw [if_pos hw, if_neg (by decide)]
      have e : rch c val n z = z := by unfold rch; rw [if_pos (Or.inr hw)]
      rw [e]
      exact ⟨τ, rfl, fr1.rf, h⟩
    · have hle := KZ_le (KZ_rch hn hK)
      have hr := rch_n (c := c) (val := val) (n := n) (z := z) (fun e => e.elim h0 hw)
      rw [hr] at hle ⊢
      have hle : z.2.2.1 + 1 ≤ c := hle
      rw [if_neg hw, if_pos rfl, if_pos (ib_nI (by omega) (by omega)), nI_clamp (by omega), ← nI_succ]
      refine ⟨_, rfl, (fr1.rf.sA (by decide)).sA (by decide), fun m hm => ?_, fun k hk => ?_⟩
      · show upd (τ.2.1 29) n (τ.2.1 29 n ||| 1) m = _
        rw [u_is]
        by_cases e : m = n
        · rw [if_pos e, e, h.1 n hn]
          exact kv_o1 _ (by simpa using h0) (if_pos rfl) rfl
        · rw [if_neg e, h.1 m hm]
          refine (kv_cong ?_ ?_).symm
          · exact if_neg e
          · rfl
      · show upd (τ.2.1 30) z.2.2.1 (nI n) k = nI (if k = z.2.2.1 then n else z.2.2.2 k)
        rw [u_is]
        by_cases e : k = z.2.2.1
        · rw [if_pos e, if_pos e]
        · rw [if_neg e, if_neg e]; exact h.2 k (by have : k < z.2.2.1 + 1 := hk; omega)
theorem op_cases {v : Int32} {c : Nat} (hv : ¬ wrg c v = true) : ∃ x, x < 2 ^ 31 ∧ v = nI x ∧ v / 10000 = nI (opN v) ∧ (v / 100) - (v / 100) / 100 * 100 = nI (wdN v) ∧ v - v / 100 * 100 = nI (nxN v) := by
  obtain ⟨h0, -, -, -⟩ := wrg_f hv
  obtain ⟨x, hx, rfl⟩ := nI_of h0
  obtain ⟨e1, e2, e3⟩ := ord_div hx
  refine ⟨x, hx, rfl, ?_, ?_, ?_⟩
  · unfold opN; rw [nI_clamp hx]; exact e1
  · unfold wdN; rw [nI_clamp hx]; exact e2
  · unfold nxN; rw [nI_clamp hx]; exact e3
theorem numX {c : Nat} {z : Kz} {σ : St} {w : Nat} (hw : w < c) (h : XKn c z σ) : XKn c (numK w z) (sA σ 12 (upd (σ.2.1 12) w (σ.2.1 12 w ||| 2))) := by
  refine ⟨fun m hm => ?_, h.2.1, h.2.2⟩
  show upd (σ.2.1 12) w (σ.2.1 12 w ||| 2) m = _
  rw [u_is]
  by_cases e : m = w
  · rw [if_pos e, e, h.1 w hw, kv_o2]
  · rw [if_neg e, h.1 m hm]
    refine (kv_cong ?_ ?_).symm
    · rfl
    · exact if_neg e
theorem numM {c : Nat} {z : Kz} {τ : St} {w : Nat} (hw : w < c) (h : MKn c z τ) : MKn c (numK w z) (sA τ 29 (upd (τ.2.1 29) w (τ.2.1 29 w ||| 2))) := by
  refine ⟨fun m hm => ?_, h.2⟩
  show upd (τ.2.1 29) w (τ.2.1 29 w ||| 2) m = _
  rw [u_is]
  by_cases e : m = w
  · rw [if_pos e, e, h.1 w hw, kv_o2]
  · rw [if_neg e, h.1 m hm]
    refine (kv_cong ?_ ?_).symm
    · rfl
    · exact if_neg e
theorem num_rch (c : Nat) (val : Nat → Int32) (w n : Nat) (z : Kz) : rch c val n (numK w z) = numK w (rch c val n z) := by
  unfold rch numK
  by_cases h : z.1 n = true ∨ wrg c (val n) = true
  · rw [if_pos h, if_pos h]
  · rw [if_neg h, if_neg h]
theorem x_fo {c en : Nat} {val : Nat → Int32} {σ : St} {z : Kz} {v : Int32} (hc : c ≤ 40) (hv : ¬ wrg c v = true) (hP : XP c en val σ) (hK : KZ c val z) (h : XKn c z σ) : ∃ σ', F_xX5_followOrder v σ = some σ' ∧ fr1 [13] [12, 13] σ σ' ∧ XKn c (knT c val v z) σ' := by
  obtain ⟨-, h1, h2, h3⟩ := wrg_f hv
  obtain ⟨x, hx, -, e1, e2, e3⟩ := op_cases hv
  unfold F_xX5_followOrder F_xX5_opOf F_xX5_wordOf F_xX5_nextOf
  rw [bd_is, bd_is, bd_is, e1, e2, e3]
  unfold knT
  by_cases o0 : opN v = 0
  · rw [o0, if_pos nI_0, if_pos rfl]
    refine ⟨σ, ?_, fr1.rf, h⟩
    unfold F_xX5_followOrder_22 F_xX5_followOrder_39
    rw [if_neg (by decide), if_neg (by decide), x_reads (by omega), bd_is, if_pos (by decide)]
  · rw [if_neg (nI_ne0 (by omega) (by omega)), if_neg o0]
    obtain ⟨σ1, a1, a2, a3⟩ := x_reach hc h3 hP hK h
    have hP1 := hP.fr a2 (by decide) (by decide) (by decide)
    have hK1 := KZ_rch h3 hK
    rw [a1, bv_is]
    unfold F_xX5_followOrder_22
    have n6 : (nI (opN v) = (6 : Int32)) ↔ opN v = 6 := nI_eq (a := opN v) (b := 6) (by omega) (by omega)
    have n7 : (nI (opN v) = (7 : Int32)) ↔ opN v = 7 := nI_eq (a := opN v) (b := 7) (by omega) (by omega)
    by_cases o6 : opN v = 6 ∨ opN v = 7
    · rw [if_pos o6]
      obtain ⟨σ2, b1, b2, b3⟩ := x_reach hc h2 hP1 hK1 a3
      refine ⟨σ2, ?_, a2.tr b2, b3⟩
      have e34 : F_xX5_followOrder_34 (nI (opN v)) (nI (wdN v)) σ1 = some σ2 := by
        unfold F_xX5_followOrder_34 F_xX5_followOrder_39
        rw [b1, bv_is, x_reads (by omega), bd_is, if_neg (show ¬ (1 ≤ opN v ∧ opN v ≤ 5) by omega), if_pos rfl]
      rcases o6 with o | o
      · rw [if_pos (n6.mpr o), e34]
      · rw [if_neg (fun z => by have := n6.mp z; omega), if_pos (n7.mpr o), e34]
    · rw [if_neg o6, if_neg (fun z => o6 (Or.inl (n6.mp z))), if_neg (fun z => o6 (Or.inr (n7.mp z)))]
      unfold F_xX5_followOrder_39
      rw [x_reads (by omega), bd_is]
      by_cases o5 : opN v ≤ 5
      · rw [if_pos (show 1 ≤ opN v ∧ opN v ≤ 5 by omega), if_neg (by decide), has_y hP1 hc h2, bd_is, if_neg (by decide), if_pos (ib_nI (by omega) (by omega)), nI_clamp (by omega), if_pos o5]
        exact ⟨_, rfl, a2.sA (by decide), numX h2 a3⟩
      · rw [if_neg (show ¬ (1 ≤ opN v ∧ opN v ≤ 5) by omega), if_pos rfl, if_neg o5]
        exact ⟨σ1, rfl, a2, a3⟩
theorem x_kind23 {c en : Nat} {val : Nat → Int32} {j : Nat} (hc : c ≤ 40) (hj : j < c) : ∀ (f g k : Nat) (σ : St) (z : Kz), k ≤ 40 → g + k = 41 → g ≤ f → XP c en val σ → KZ c val z → XKn c z σ → ∃ σ', F_xX5_kindOf_23 f (nI j) (nI k) σ = some (kv (knL c val g k z) j, σ') ∧ fr1 [13] [12, 13] σ σ' := by
  intro f
  induction f with
  | zero => intro g k σ z h1 h2 h3; omega
  | succ f ih =>
    intro g k σ z h1 h2 h3 hP hK h
    obtain ⟨g, rfl⟩ : ∃ m, g = m + 1 := ⟨g - 1, by omega⟩
    rw [F_xX5_kindOf_23, knL, h.2.1]
    have hle := KZ_le hK
    by_cases h4 : k < z.2.2.1
    · rw [if_neg (nI_ge h4 (by omega)), if_neg (show ¬ (40 : Int32) ≤ nI k from nI_ge (a := k) (b := 40) (by omega) (by omega)), if_pos (ib_nI (by omega) (by omega)), nI_clamp (by omega), h.2.2 k h4, if_pos h4]
      have hq := hK.2 k h4
      rw [if_pos (ib_nI (by omega) (by omega)), nI_clamp (by omega), hP.2.2 _ hq.1, ← nI_succ]
      obtain ⟨σ1, a1, a2, a3⟩ := x_fo hc hq.2 hP hK h
      rw [a1, bv_is]
      obtain ⟨σ2, b1, b2⟩ := ih g (k + 1) σ1 _ (by omega) (by omega) (by omega) (hP.fr a2 (by decide) (by decide) (by decide)) (KZ_T hq.2 hK) a3
      exact ⟨σ2, b1, a2.tr b2⟩
    · rw [if_pos (nI_le (by omega) (by omega)), if_pos (ib_nI (by omega) (by omega)), nI_clamp (by omega), h.1 j hj, if_neg h4]
      exact ⟨σ, rfl, fr1.rf⟩
theorem m_kn46 {c en : Nat} {val : Nat → Int32} {j : Nat} (hc : c ≤ 40) (hj : j < c) : ∀ (f g k : Nat) (τ : St) (z : Kz), k ≤ 40 → g + k = 41 → g ≤ f → MP c en val τ → KZ c val z → MKn c z τ → ∃ τ', F_mX11_known_46 f (nI j) (nI z.2.2.1) (nI k) τ = some (kv (knL c val g k z) j, τ') ∧ fr1 [] [29, 30] τ τ' := by
  intro f
  induction f with
  | zero => intro g k τ z h1 h2 h3; omega
  | succ f ih =>
    intro g k τ z h1 h2 h3 hP hK h
    obtain ⟨g, rfl⟩ : ∃ m, g = m + 1 := ⟨g - 1, by omega⟩
    rw [F_mX11_known_46, knL]
    have hle := KZ_le hK
    by_cases h4 : k < z.2.2.1
    · have hq := hK.2 k h4
      rw [if_neg (nI_ge h4 (by omega)), if_pos (ib_nI (by omega) (by omega)), nI_clamp (n := k) (by omega), h.2 k h4, if_pos h4, if_pos (ib_nI (by omega) (by omega)), nI_clamp (by omega), hP.2.2 _ hq.1]
      generalize hvv : val (z.2.2.2 k) = v at hq
      obtain ⟨-, q1, q2, q3⟩ := wrg_f hq.2
      obtain ⟨x, hx, -, e1, e2, e3⟩ := op_cases hq.2
      rw [nm_is, nm_is, e1, e2, m_reads (by omega), bd_is]
      have n6 : (nI (opN v) = (6 : Int32)) ↔ opN v = 6 := nI_eq (a := opN v) (b := 6) (by omega) (by omega)
      have n7 : (nI (opN v) = (7 : Int32)) ↔ opN v = 7 := nI_eq (a := opN v) (b := 7) (by omega) (by omega)
      have hT := KZ_T (val := val) hq.2 hK
      have next : ∀ z' τ', z' = knT c val v z → fr1 [] [29, 30] τ τ' → MKn c z' τ' → ∃ τ'', F_mX11_known_46 f (nI j) (nI z'.2.2.1) (nI (k + 1)) τ' = some (kv (knL c val g (k + 1) (knT c val v z)) j, τ'') ∧ fr1 [] [29, 30] τ τ'' := by
        intro z' τ' hz ht hm
        subst hz
        obtain ⟨τ'', b1, b2⟩ := ih g (k + 1) τ' _ (by omega) (by omega) (by omega) (hP.fr ht (by decide) (by decide) (by decide)) hT hm
        exact ⟨τ'', b1, ht.tr b2⟩
      by_cases o5 : 1 ≤ opN v ∧ opN v ≤ 5
      · rw [if_pos o5, if_neg (by decide), if_pos (ib_nI (by omega) (by omega)), nI_clamp (n := wdN v) (by omega)]
        unfold F_mX11_known_101
        rw [if_neg (nI_ne0 (by omega) (by omega)), e3]
        have hm0 := numM q2 h
        have fr0 : fr1 [] [29, 30] τ (sA τ 29 (upd (τ.2.1 29) (wdN v) (τ.2.1 29 (wdN v) ||| 2))) := fr1.rf.sA (by decide)
        obtain ⟨τ1, a1, a2, a3⟩ := m_reach hc q3 (hP.fr fr0 (by decide) (by decide) (by decide)) (KZ_num (n := wdN v) hK) hm0
        rw [show F_mX11_reach (nI (nxN v)) (nI z.2.2.1) (sA τ 29 (upd (τ.2.1 29) (wdN v) (τ.2.1 29 (wdN v) ||| 2))) = _ from a1, bd_is, if_neg (fun z => by have := n6.mp z; omega), if_neg (fun z => by have := n7.mp z; omega), ← nI_succ]
        exact next _ τ1 (by
          unfold knT
          rw [if_neg (by omega), if_neg (by omega), if_pos o5.2, num_rch]) (fr0.tr a2) a3
      · rw [if_neg o5, if_pos rfl]
        unfold F_mX11_known_101
        by_cases o0 : opN v = 0
        · rw [o0, if_pos nI_0, ← nI_succ]
          exact next z τ (by unfold knT; rw [if_pos o0]) fr1.rf h
        · rw [if_neg (nI_ne0 (by omega) (by omega)), e3]
          obtain ⟨τ1, a1, a2, a3⟩ := m_reach hc q3 hP hK h
          rw [a1, bd_is]
          by_cases o6 : opN v = 6 ∨ opN v = 7
          · obtain ⟨τ2, b1, b2, b3⟩ := m_reach hc q2 (hP.fr a2 (by decide) (by decide) (by decide)) (KZ_rch q3 hK) a3
            have e134 : F_mX11_known_134 (F_mX11_known_46 f) (nI j) (nI (rch c val (nxN v) z).2.2.1) (nI k) (nI (wdN v)) τ1 = F_mX11_known_46 f (nI j) (nI (rch c val (wdN v) (rch c val (nxN v) z)).2.2.1) (nI (k + 1)) τ2 := by
              unfold F_mX11_known_134
              rw [b1, bd_is, ← nI_succ]
            have fin := next _ τ2 (by unfold knT; rw [if_neg o0, if_pos o6]) (a2.tr b2) b3
            rcases o6 with o | o
            · rw [if_pos (n6.mpr o), e134]
              exact fin
            · rw [if_neg (fun z => by have := n6.mp z; omega), if_pos (n7.mpr o), e134]
              exact fin
          · rw [if_neg (fun z => o6 (Or.inl (n6.mp z))), if_neg (fun z => o6 (Or.inr (n7.mp z))), ← nI_succ]
            exact next _ τ1 (by unfold knT; rw [if_neg o0, if_neg o6, if_neg (by omega)]) a2 a3
    · rw [if_pos (nI_le (by omega) (by omega)), if_pos (ib_nI (by omega) (by omega)), nI_clamp (by omega), h.1 j hj, if_neg h4]
      exact ⟨τ, rfl, fr1.rf⟩
def z0 : Kz := (fun _ => false, fun _ => false, 0, fun _ => 0)
theorem KZ_0 (c : Nat) (val : Nat → Int32) : KZ c val z0 := by
  refine ⟨?_, fun k hk => absurd hk (Nat.not_lt_zero _)⟩
  show 0 = fb_ct (fun _ => false) c
  induction c with
  | zero => rfl
  | succ c ih => rw [fb_ct_succ, ← ih]; rfl
theorem x_fill12 : ∀ (f k : Nat) (σ : St), k ≤ 40 → 40 < f + k → ∃ g, F_xJ7_fill_53178_5 f 0 (nI k) 40 σ = some (sA σ 12 g) ∧ (∀ j, k ≤ j → j < 40 → g j = 0) ∧ ∀ j, j < k → g j = σ.2.1 12 j := by
  intro f
  induction f with
  | zero => intro k σ h1 h2; omega
  | succ f ih =>
    intro k σ h1 h2
    unfold F_xJ7_fill_53178_5
    by_cases e : k = 40
    · subst e
      rw [if_pos (show (40 : Int32) ≤ nI 40 from nI_le (a := 40) (Nat.le_refl _) (by omega))]
      refine ⟨σ.2.1 12, ?_, fun j _ _ => by omega, fun _ _ => rfl⟩
      unfold sA
      rw [vf_self]
    · rw [if_neg (show ¬ (40 : Int32) ≤ nI k from nI_ge (a := k) (b := 40) (by omega) (by omega)), if_pos (ib_nI (by omega) (by omega)), nI_clamp (by omega), ← nI_succ]
      obtain ⟨g, a1, a2, a3⟩ := ih (k + 1) (sA σ 12 (upd (σ.2.1 12) k 0)) (by omega) (by omega)
      refine ⟨g, ?_, fun j h5 h6 => ?_, fun j h5 => ?_⟩
      · rw [a1]
        unfold sA
        rw [vf2]
      · by_cases e2 : j = k
        · rw [a3 j (by omega)]
          show upd (σ.2.1 12) k 0 j = 0
          rw [u_is, if_pos e2]
        · exact a2 j (by omega) h6
      · rw [a3 j (by omega)]
        show upd (σ.2.1 12) k 0 j = _
        rw [u_is, if_neg (by omega)]
theorem m_kn13 {c en : Nat} {val : Nat → Int32} {j : Nat} (hc : c ≤ 40) (hen : en < c) (hj : j < c) : ∀ (f k : Nat) (τ : St), k ≤ c → c < f + k → MP c en val τ → (∀ n, n < k → τ.2.1 29 n = 0) → ∃ τ', F_mX11_known_13 f (nI j) (nI k) τ = some (kv (knL c val 41 0 (rch c val en z0)) j, τ') ∧ fr1 [] [29, 30] τ τ' := by
  intro f
  induction f with
  | zero => intro k τ h1 h2; omega
  | succ f ih =>
    intro k τ h1 h2 hP h
    rw [F_mX11_known_13, hP.1]
    by_cases h3 : c ≤ k
    · have hM : MKn c z0 τ := ⟨fun n hn => h n (by omega), fun k hk => absurd hk (Nat.not_lt_zero _)⟩
      obtain ⟨τ1, a1, a2, a3⟩ := m_reach hc hen hP (KZ_0 c val) hM
      obtain ⟨τ2, b1, b2⟩ := m_kn46 hc hj FU 41 0 τ1 _ (by omega) (by omega) (by rw [FU_is]; omega) (hP.fr a2 (by decide) (by decide) (by decide)) (KZ_rch hen (KZ_0 c val)) a3
      rw [if_pos (nI_le h3 (by omega)), hP.2.1, show F_mX11_reach (nI en) 0 τ = _ from a1, bd_is]
      exact ⟨τ2, b1, a2.tr b2⟩
    · rw [if_neg (nI_ge (by omega) (by omega)), if_pos (ib_nI (by omega) (by omega)), nI_clamp (by omega), ← nI_succ]
      have fr0 : fr1 [] [29, 30] τ (sA τ 29 (upd (τ.2.1 29) k 0)) := fr1.rf.sA (by decide)
      obtain ⟨τ', a1, a2⟩ := ih (k + 1) (sA τ 29 (upd (τ.2.1 29) k 0)) (by omega) (by omega) (hP.fr fr0 (by decide) (by decide) (by decide)) (fun n hn => by
        show upd (τ.2.1 29) k 0 n = 0
        rw [u_is]
        by_cases e : n = k
        · rw [if_pos e]
        · rw [if_neg e]; exact h n (by omega))
      exact ⟨τ', a1, fr0.tr a2⟩
theorem api_known (x : Int32) : API (F_xX10_known x) (F_mX11_known x) := by
  intro q hq
  have hc : q.1 3 ≤ 40 := hq.2.2.1.1
  rcases nm_cases x (c := q.1 3) (by omega) with ⟨j, hj, rfl⟩ | ⟨hx, -⟩
  · have hen := en_lt hq (by omega)
    refine ⟨kv (knL (q.1 3) (q.2.2.2 1) 41 0 (rch (q.1 3) (q.2.2.2 1) (q.1 4) z0)) j, q, hq, fun σ h => ?_, fun τ h => ?_⟩
    · obtain ⟨g, f1, f2, -⟩ := x_fill12 FU 0 σ (by omega) (by rw [FU_is]; omega)
      have fr0 : fr1 [13] [12, 13] σ (sI (sA σ 12 g) 13 0) := (fr1.rf.sA (by decide)).sI (by decide)
      have hP0 := h.2.2.1.fr fr0 (by decide) (by decide) (by decide)
      obtain ⟨σ1, a1, a2, a3⟩ := x_reach hc hen hP0 (KZ_0 _ _) (⟨fun n hn => f2 n (by omega) (by omega), rfl, fun k hk => absurd hk (Nat.not_lt_zero _)⟩ : XKn (q.1 3) z0 (sI (sA σ 12 g) 13 0))
      obtain ⟨σ2, b1, b2⟩ := x_kind23 hc hj FU 41 0 σ1 _ (by omega) (by omega) (by rw [FU_is]; omega) (hP0.fr a2 (by decide) (by decide) (by decide)) (KZ_rch hen (KZ_0 _ _)) a3
      refine ⟨σ2, ?_, h.fr ((fr0.tr a2).tr b2) (by decide) (by decide)⟩
      unfold F_xX10_known F_xX5_kindOf F_xJ7_fill_53178
      rw [has_y h.2.2.1 hc hj, bd_is, if_neg (by decide), show F_xJ7_fill_53178_5 FU 0 0 40 σ = _ from f1, bv_is, show (sA σ 12 g).1 12 = nI (q.1 4) from h.2.2.1.2.1, a1, bv_is, show F_xX5_kindOf_23 FU (nI j) 0 σ1 = _ from b1, bd_is]
    · obtain ⟨τ', a1, a2⟩ := m_kn13 hc hen hj FU 0 τ (Nat.zero_le _) (by rw [FU_is]; omega) h.2.2.1 (fun n hn => absurd hn (Nat.not_lt_zero _))
      refine ⟨τ', ?_, h.fr a2 (by decide) (by decide)⟩
      unfold F_mX11_known
      rw [isn_y h.2.2.1 hc hj, bd_is, if_neg (by decide)]
      exact a1
  · refine ⟨-2, q, hq, fun σ h => ⟨σ, ?_, h⟩, fun τ h => ⟨τ, ?_, h⟩⟩
    · unfold F_xX10_known
      rw [has_n h.2.2.1 hx, bd_is, if_pos rfl]
    · unfold F_mX11_known
      rw [isn_n h.2.2.1 hc hx, bd_is, if_pos rfl]
