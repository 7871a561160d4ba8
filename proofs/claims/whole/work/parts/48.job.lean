/-! job -/
def JS (j : Nat) (jd od : Nat → Nat) : Prop := (∀ k, k < j → od k < j) ∧ ∀ a b, a < b → b < j → jd (od a) < jd (od b) ∨ (jd (od a) = jd (od b) ∧ od a < od b)
def odI (od : Nat → Nat) (j i : Nat) : Nat → Nat := fun k => if k < i then od k else if k = i then j else od (k - 1)
theorem JS_ins {j d i : Nat} {jd od : Nat → Nat} (h : JS j jd od) (hi : i ≤ j) (h1 : i = 0 ∨ jd (od (i - 1)) ≤ d) (h2 : ∀ k, i ≤ k → k < j → d < jd (od k)) : JS (j + 1) (vf_upd jd j d) (odI od j i) := by
  have hv : ∀ k, k < j → vf_upd jd j d (od k) = jd (od k) := fun k hk => by
    show (if od k = j then d else jd (od k)) = _
    rw [if_neg (by have := h.1 k hk; omega)]
  have hj : vf_upd jd j d j = d := by
    show (if j = j then d else jd j) = d
    rw [if_pos rfl]
  have e1 : ∀ k, k < i → odI od j i k = od k := fun k hk => by unfold odI; rw [if_pos hk]
  have e2 : odI od j i i = j := by unfold odI; rw [if_neg (by omega), if_pos rfl]
  have e3 : ∀ k, i < k → odI od j i k = od (k - 1) := fun k hk => by unfold odI; rw [if_neg (by omega), if_neg (by omega)]
  refine ⟨fun k hk => ?_, fun a b hab hb => ?_⟩
  · rcases Nat.lt_trichotomy k i with h3 | h3 | h3
    · rw [e1 k h3]; have := h.1 k (by omega); omega
    · rw [h3, e2]; omega
    · rw [e3 k h3]; have := h.1 (k - 1) (by omega); omega
  · rcases Nat.lt_trichotomy b i with h3 | h3 | h3
    · rw [e1 b h3, e1 a (by omega), hv a (by omega), hv b (by omega)]
      exact h.2 a b hab (by omega)
    · subst h3
      rw [e2, e1 a hab, hj, hv a (by omega)]
      have h4 := h.1 a (by omega)
      have h5 : jd (od a) ≤ d := by
        rcases h1 with h1 | h1
        · omega
        · by_cases h6 : a = b - 1
          · rw [h6]; exact h1
          · rcases h.2 a (b - 1) (by omega) (by omega) with h7 | h7 <;> omega
      omega
    · rw [e3 b h3, hv (b - 1) (by omega)]
      rcases Nat.lt_trichotomy a i with h4 | h4 | h4
      · rw [e1 a h4, hv a (by omega)]
        exact h.2 a (b - 1) (by omega) (by omega)
      · subst h4
        rw [e2, hj]
        left
        exact h2 (b - 1) (by omega) (by omega)
      · rw [e3 a h4, hv (a - 1) (by omega)]
        exact h.2 (a - 1) (b - 1) (by omega) (by omega)
theorem nI_dec {a : Nat} (h : 0 < a) (h2 : a < 2 ^ 31) : nI a + (-1) = nI (a - 1) := by
  obtain ⟨b, rfl⟩ : ∃ b, a = b + 1 := ⟨a - 1, by omega⟩
  rw [nI_succ, Int32.add_assoc, show ((1 : Int32) + -1) = 0 from rfl, Int32.add_zero]
  rfl
theorem nI_sub1 {a : Nat} (h : 0 < a) (h2 : a < 2 ^ 31) : nI a - 1 = nI (a - 1) := by
  rw [Int32.sub_eq_add_neg]
  exact nI_dec h h2
theorem x_app44 {j d : Nat} {jd od : Nat → Nat} (hS : JS j jd od) (hj : j < 8) (hd : d ≤ 99999) (hjd : ∀ k, k < j → jd k ≤ 99999) : ∀ (n i : Nat) (σ : St), i ≤ j → i < n → σ.1 32 = nI j → (∀ k, k < j → σ.2.1 58 k = nI (jd k)) → (∀ k, k < i → σ.2.1 59 k = nI (od k)) → (∀ k, i < k → k ≤ j → σ.2.1 59 k = nI (od (k - 1))) → (∀ k, i ≤ k → k < j → d < jd (od k)) →
    ∃ (f : Nat → Int32) (od' : Nat → Nat), F_xX4_append_44 n (nI d) (nI i) σ = some (nI j, sA (sI σ 32 (nI (j + 1))) 59 f) ∧ (∀ k, k < j + 1 → f k = nI (od' k)) ∧ JS (j + 1) (vf_upd jd j d) od' := by
  intro n
  induction n with
  | zero => intro i σ _ h; omega
  | succ n ih =>
    intro i σ h1 h2 h32 h58 ha hb hc
    have fin85 : (i = 0 ∨ jd (od (i - 1)) ≤ d) → ∃ (f : Nat → Int32) (od' : Nat → Nat), F_xX4_append_85 (nI i) σ = some (nI j, sA (sI σ 32 (nI (j + 1))) 59 f) ∧ (∀ k, k < j + 1 → f k = nI (od' k)) ∧ JS (j + 1) (vf_upd jd j d) od' := by
      intro h3
      refine ⟨upd (σ.2.1 59) i (nI j), odI od j i, ?_, fun k hk => ?_, JS_ins hS h1 h3 hc⟩
      · unfold F_xX4_append_85
        rw [if_pos (ib_nI (by omega) (by omega)), h32, nI_clamp (by omega), ← nI_succ, nI_sub1 (by omega) (by omega)]
        rfl
      · rw [u_is]
        unfold odI
        rcases Nat.lt_trichotomy k i with h4 | h4 | h4
        · rw [if_neg (by omega), if_pos h4, ha k h4]
        · rw [if_pos h4, if_neg (by omega), if_pos h4]
        · rw [if_neg (by omega), if_neg (by omega), if_neg (by omega), hb k h4 (by omega)]
    rw [F_xX4_append_44]
    by_cases h0 : i = 0
    · rw [h0, if_pos (by decide), ← h0]
      exact fin85 (Or.inl h0)
    · have ho := hS.1 (i - 1) (by omega)
      have hv := hjd _ ho
      rw [if_neg (show ¬ nI i ≤ (0 : Int32) from fun z => absurd ((nI_leI (a := i) (b := 0) (by omega) (by omega)).mp z) (by omega)), nI_sub1 (by omega) (by omega), if_pos (ib_nI (by omega) (by omega)), nI_clamp (by omega), ha (i - 1) (by omega), if_pos (ib_nI (by omega) (by omega)), nI_clamp (n := od (i - 1)) (by omega), h58 _ ho]
      by_cases h3 : jd (od (i - 1)) ≤ d
      · rw [if_pos (nI_le h3 (by omega))]
        exact fin85 (Or.inr h3)
      · rw [if_neg (nI_ge (by omega) (by omega)), if_pos (ib_nI (by omega) (by omega)), nI_clamp (n := i) (by omega), nI_dec (by omega) (by omega)]
        obtain ⟨f, od', b1, b2, b3⟩ := ih (i - 1) (sA σ 59 (upd (σ.2.1 59) i (nI (od (i - 1))))) (by omega) (by omega) h32 h58 (fun k hk => by
            show upd (σ.2.1 59) i (nI (od (i - 1))) k = _
            rw [u_is, if_neg (by omega)]; exact ha k (by omega)) (fun k hk hk2 => by
            show upd (σ.2.1 59) i (nI (od (i - 1))) k = _
            rw [u_is]
            by_cases h4 : k = i
            · rw [if_pos h4, h4]
            · rw [if_neg h4]; exact hb k (by omega) hk2) (fun k hk hk2 => by
            by_cases h4 : k = i - 1
            · rw [h4]; omega
            · exact hc k (by omega) hk2)
        refine ⟨f, od', b1.trans ?_, b2, b3⟩
        show some (nI j, (_, fun a => _, _)) = some (nI j, (_, fun a => _, _))
        congr 3
        refine Prod.ext ?_ rfl
        funext a
        show (if a = 59 then f else if a = 59 then _ else σ.2.1 a) = if a = 59 then f else σ.2.1 a
        by_cases h5 : a = 59
        · rw [if_pos h5, if_pos h5]
        · rw [if_neg h5, if_neg h5, if_neg h5]
theorem api_job (x1 x2 : Int32) : API (F_xX10_job x1 x2) (F_mX11_job x1 x2) := by
  intro q hq
  have hJ := hq.2.2.2.2.2.2.1
  have c1 : (1 : Int32).toInt = 1 := rfl
  have c2 : (9999 : Int32).toInt = 9999 := rfl
  have c3 : (99999 : Int32).toInt = 99999 := rfl
  by_cases ht : x1 < 1 ∨ 9999 < x1
  · refine ⟨-2, q, hq, fun σ h => ⟨σ, ?_, h⟩, fun τ h => ⟨τ, ?_, h⟩⟩
    · unfold F_xX10_job
      by_cases h1 : x1 < 1
      · rw [if_pos h1]
      · rw [if_neg h1, if_pos (ht.resolve_left h1)]
    · unfold F_mX11_job
      rw [in_is, bd_is, if_pos ht, if_pos rfl]
  by_cases hd : x2 < 1 ∨ 99999 < x2
  · refine ⟨-2, q, hq, fun σ h => ⟨σ, ?_, h⟩, fun τ h => ⟨τ, ?_, h⟩⟩
    · unfold F_xX10_job
      rw [if_neg (fun z => ht (Or.inl z)), if_neg (fun z => ht (Or.inr z))]
      by_cases h1 : x2 < 1
      · rw [if_pos h1]
      · rw [if_neg h1, if_neg (fun z => by
          have h2 := hd.resolve_left h1
          rw [i_lt] at h2; rw [i_le] at z; omega)]
    · unfold F_mX11_job
      rw [in_is, bd_is, if_neg ht, if_neg (by decide), in_is, bd_is, if_pos hd, if_pos rfl]
  have ht1 : ¬ x1 < 1 := fun z => ht (Or.inl z)
  have ht2 : ¬ 9999 < x1 := fun z => ht (Or.inr z)
  have hd1 : ¬ x2 < 1 := fun z => hd (Or.inl z)
  have hd2 : x2 ≤ 99999 := by
    have : ¬ 99999 < x2 := fun z => hd (Or.inr z)
    rw [i_lt] at this; rw [i_le]; omega
  obtain ⟨T, hT, rfl⟩ := nI_of (x := x1) (fun z => ht1 (by rw [i_lt] at z ⊢; rw [show (0 : Int32).toInt = 0 from rfl] at z; omega))
  obtain ⟨D, hD, rfl⟩ := nI_of (x := x2) (fun z => hd1 (by rw [i_lt] at z ⊢; rw [show (0 : Int32).toInt = 0 from rfl] at z; omega))
  have bT : 1 ≤ T ∧ T ≤ 9999 := by
    rw [i_lt, nI_toInt (by omega)] at ht1 ht2
    omega
  have bD : 1 ≤ D ∧ D ≤ 99999 := by
    rw [i_lt, nI_toInt (by omega)] at hd1
    rw [i_le, nI_toInt (by omega)] at hd2
    omega
  by_cases h8 : q.1 5 = 8
  · refine ⟨-3, q, hq, fun σ h => ⟨σ, ?_, h⟩, fun τ h => ⟨τ, ?_, h⟩⟩
    · unfold F_xX10_job F_xX4_append
      rw [if_neg ht1, if_neg ht2, if_neg hd1, if_pos hd2, h.2.2.2.2.2.2.1, h8, if_neg (by decide), if_neg (by decide), bd_is]
    · unfold F_mX11_job
      rw [in_is, bd_is, if_neg ht, if_neg (by decide), in_is, bd_is, if_neg hd, if_neg (by decide), h.2.2.2.2.2.2.1, h8, if_pos (by decide)]
  · have hj : q.1 5 < 8 := by have := hJ.1; omega
    refine ⟨nI (q.1 5), aN (aF (aF q 3 (vf_upd (q.2.1 3) (q.1 5) T)) 4 (vf_upd (q.2.1 4) (q.1 5) D)) 5 (q.1 5 + 1), ⟨hq.1, hq.2.1, hq.2.2.1, hq.2.2.2.1, hq.2.2.2.2.1, hq.2.2.2.2.2.1, ⟨?_, fun k hk => ?_⟩, hq.2.2.2.2.2.2.2⟩, fun σ h => ?_, fun τ h => ?_⟩
    · show q.1 5 + 1 ≤ 8
      omega
    · show 1 ≤ (if k = q.1 5 then T else q.2.1 3 k) ∧ (if k = q.1 5 then T else q.2.1 3 k) ≤ 9999 ∧ 1 ≤ (if k = q.1 5 then D else q.2.1 4 k) ∧ (if k = q.1 5 then D else q.2.1 4 k) ≤ 99999
      by_cases h5 : k = q.1 5
      · rw [if_pos h5, if_pos h5]; omega
      · rw [if_neg h5, if_neg h5]
        exact hJ.2 k (by have : k < q.1 5 + 1 := hk; omega)
    · obtain ⟨od, ho, hs⟩ := h.2.2.2.2.2.2.2.2
      have hS : JS (q.1 5) (q.2.1 4) od := ⟨fun k hk => (ho k hk).2, hs⟩
      obtain ⟨f, od', b1, b2, b3⟩ := x_app44 (d := D) hS hj bD.2 (fun k hk => (hJ.2 k hk).2.2.2) FU (q.1 5) (sA (sA σ 57 (upd (σ.2.1 57) (q.1 5) (nI T))) 58 (upd (σ.2.1 58) (q.1 5) (nI D))) (Nat.le_refl _) (by rw [FU_is]; omega) h.2.2.2.2.2.2.1 (fun k hk => by
        show upd (σ.2.1 58) (q.1 5) (nI D) k = _
        rw [u_is, if_neg (by omega)]; exact (h.2.2.2.2.2.2.2.1 k hk).2) (fun k hk => (ho k hk).1) (fun k hk hk2 => by omega) (fun k hk hk2 => by omega)
      refine ⟨sA (sI (sA (sA σ 57 (upd (σ.2.1 57) (q.1 5) (nI T))) 58 (upd (σ.2.1 58) (q.1 5) (nI D))) 32 (nI (q.1 5 + 1))) 59 f, ?_, h.1, h.2.1, h.2.2.1, h.2.2.2.1, h.2.2.2.2.1, h.2.2.2.2.2.1, ⟨rfl, fun k hk => ?_, od', fun k hk => ⟨b2 k hk, b3.1 k hk⟩, b3.2⟩⟩
      · unfold F_xX10_job F_xX4_append
        rw [if_neg ht1, if_neg ht2, if_neg hd1, if_pos hd2, h.2.2.2.2.2.2.1, if_neg (nI_pos (by omega)), if_pos (show nI (q.1 5) < (8 : Int32) from nI_lt (a := q.1 5) (b := 8) hj (by omega)), if_pos (ib_nI hj (by omega)), nI_clamp (by omega), b1, bd_is]
      · show upd (σ.2.1 57) (q.1 5) (nI T) k = nI (if k = q.1 5 then T else q.2.1 3 k) ∧ upd (σ.2.1 58) (q.1 5) (nI D) k = nI (if k = q.1 5 then D else q.2.1 4 k)
        rw [u_is, u_is]
        by_cases h5 : k = q.1 5
        · rw [if_pos h5, if_pos h5, if_pos h5, if_pos h5]; exact ⟨rfl, rfl⟩
        · rw [if_neg h5, if_neg h5, if_neg h5, if_neg h5]
          exact h.2.2.2.2.2.2.2.1 k (by have : k < q.1 5 + 1 := hk; omega)
    · refine ⟨sA (sA (sI τ 25 (nI (q.1 5 + 1))) 31 (upd (τ.2.1 31) (q.1 5) (nI T))) 32 (upd (τ.2.1 32) (q.1 5) (nI D)), ?_, h.1, h.2.1, h.2.2.1, h.2.2.2.1, h.2.2.2.2.1, h.2.2.2.2.2.1, ⟨rfl, fun k hk => ?_⟩⟩
      · unfold F_mX11_job
        rw [in_is, bd_is, if_neg ht, if_neg (by decide), in_is, bd_is, if_neg hd, if_neg (by decide), h.2.2.2.2.2.2.1, if_neg (show ¬ nI (q.1 5) = (8 : Int32) from fun z => h8 ((nI_eq (a := q.1 5) (b := 8) (by omega) (by omega)).mp z)), if_pos (ib_nI hj (by omega)), nI_clamp (by omega), ← nI_succ, nI_sub1 (by omega) (by omega)]
        rfl
      · show upd (τ.2.1 31) (q.1 5) (nI T) k = nI (if k = q.1 5 then T else q.2.1 3 k) ∧ upd (τ.2.1 32) (q.1 5) (nI D) k = nI (if k = q.1 5 then D else q.2.1 4 k)
        rw [u_is, u_is]
        by_cases h5 : k = q.1 5
        · rw [if_pos h5, if_pos h5, if_pos h5, if_pos h5]; exact ⟨rfl, rfl⟩
        · rw [if_neg h5, if_neg h5, if_neg h5, if_neg h5]
          exact h.2.2.2.2.2.2.2 k (by have : k < q.1 5 + 1 := hk; omega)
