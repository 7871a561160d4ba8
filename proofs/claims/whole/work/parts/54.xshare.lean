/-! fills; the class's sharing -/
theorem x_fill43_5 (v : Int32) : ∀ (f k : Nat) (σ : St), k ≤ 40 → 40 < f + k → ∃ g, F_xJ7_fill_53178v2_5 f v (nI k) 40 σ = some (sA σ 43 g) ∧ (∀ j, k ≤ j → j < 40 → g j = v) ∧ ∀ j, j < k → g j = σ.2.1 43 j := by
  intro f
  induction f with
  | zero => intro k σ h1 h2; omega
  | succ f ih =>
    intro k σ h1 h2
    unfold F_xJ7_fill_53178v2_5
    by_cases e : k = 40
    · subst e
      rw [if_pos (show (40 : Int32) ≤ nI 40 from nI_le (a := 40) (Nat.le_refl _) (by omega))]
      refine ⟨σ.2.1 43, ?_, fun j _ _ => by omega, fun _ _ => rfl⟩
      unfold sA
      rw [vf_self]
    · rw [if_neg (show ¬ (40 : Int32) ≤ nI k from nI_ge (a := k) (b := 40) (by omega) (by omega)), if_pos (ib_nI (by omega) (by omega)), nI_clamp (by omega), ← nI_succ]
      obtain ⟨g, a1, a2, a3⟩ := ih (k + 1) (sA σ 43 (upd (σ.2.1 43) k v)) (by omega) (by omega)
      refine ⟨g, ?_, fun j h5 h6 => ?_, fun j h5 => ?_⟩
      · rw [a1]
        unfold sA
        rw [vf2]
      · by_cases e2 : j = k
        · rw [a3 j (by omega)]
          show upd (σ.2.1 43) k v j = v
          rw [u_is, if_pos e2]
        · exact a2 j (by omega) h6
      · rw [a3 j (by omega)]
        show upd (σ.2.1 43) k v j = _
        rw [u_is, if_neg (by omega)]
theorem x_fill43 (v : Int32) (σ : St) : ∃ g, F_xJ7_fill_53178v2 v σ = some (sA σ 43 g) ∧ ∀ j, j < 40 → g j = v := by
  obtain ⟨g, a1, a2, -⟩ := x_fill43_5 v FU 0 σ (by omega) (by rw [FU_is]; omega)
  exact ⟨g, a1, fun j hj => a2 j (Nat.zero_le _) hj⟩
theorem x_fill44_5 (v : Int32) : ∀ (f k : Nat) (σ : St), k ≤ 40 → 40 < f + k → ∃ g, F_xJ7_fill_53178v3_5 f v (nI k) 40 σ = some (sA σ 44 g) ∧ (∀ j, k ≤ j → j < 40 → g j = v) ∧ ∀ j, j < k → g j = σ.2.1 44 j := by
  intro f
  induction f with
  | zero => intro k σ h1 h2; omega
  | succ f ih =>
    intro k σ h1 h2
    unfold F_xJ7_fill_53178v3_5
    by_cases e : k = 40
    · subst e
      rw [if_pos (show (40 : Int32) ≤ nI 40 from nI_le (a := 40) (Nat.le_refl _) (by omega))]
      refine ⟨σ.2.1 44, ?_, fun j _ _ => by omega, fun _ _ => rfl⟩
      unfold sA
      rw [vf_self]
    · rw [if_neg (show ¬ (40 : Int32) ≤ nI k from nI_ge (a := k) (b := 40) (by omega) (by omega)), if_pos (ib_nI (by omega) (by omega)), nI_clamp (by omega), ← nI_succ]
      obtain ⟨g, a1, a2, a3⟩ := ih (k + 1) (sA σ 44 (upd (σ.2.1 44) k v)) (by omega) (by omega)
      refine ⟨g, ?_, fun j h5 h6 => ?_, fun j h5 => ?_⟩
      · rw [a1]
        unfold sA
        rw [vf2]
      · by_cases e2 : j = k
        · rw [a3 j (by omega)]
          show upd (σ.2.1 44) k v j = v
          rw [u_is, if_pos e2]
        · exact a2 j (by omega) h6
      · rw [a3 j (by omega)]
        show upd (σ.2.1 44) k v j = _
        rw [u_is, if_neg (by omega)]
theorem x_fill44 (v : Int32) (σ : St) : ∃ g, F_xJ7_fill_53178v3 v σ = some (sA σ 44 g) ∧ ∀ j, j < 40 → g j = v := by
  obtain ⟨g, a1, a2, -⟩ := x_fill44_5 v FU 0 σ (by omega) (by rw [FU_is]; omega)
  exact ⟨g, a1, fun j hj => a2 j (Nat.zero_le _) hj⟩
theorem x_fill45_5 (v : Int32) : ∀ (f k : Nat) (σ : St), k ≤ 40 → 40 < f + k → ∃ g, F_xJ7_fill_53178v4_5 f v (nI k) 40 σ = some (sA σ 45 g) ∧ (∀ j, k ≤ j → j < 40 → g j = v) ∧ ∀ j, j < k → g j = σ.2.1 45 j := by
  intro f
  induction f with
  | zero => intro k σ h1 h2; omega
  | succ f ih =>
    intro k σ h1 h2
    unfold F_xJ7_fill_53178v4_5
    by_cases e : k = 40
    · subst e
      rw [if_pos (show (40 : Int32) ≤ nI 40 from nI_le (a := 40) (Nat.le_refl _) (by omega))]
      refine ⟨σ.2.1 45, ?_, fun j _ _ => by omega, fun _ _ => rfl⟩
      unfold sA
      rw [vf_self]
    · rw [if_neg (show ¬ (40 : Int32) ≤ nI k from nI_ge (a := k) (b := 40) (by omega) (by omega)), if_pos (ib_nI (by omega) (by omega)), nI_clamp (by omega), ← nI_succ]
      obtain ⟨g, a1, a2, a3⟩ := ih (k + 1) (sA σ 45 (upd (σ.2.1 45) k v)) (by omega) (by omega)
      refine ⟨g, ?_, fun j h5 h6 => ?_, fun j h5 => ?_⟩
      · rw [a1]
        unfold sA
        rw [vf2]
      · by_cases e2 : j = k
        · rw [a3 j (by omega)]
          show upd (σ.2.1 45) k v j = v
          rw [u_is, if_pos e2]
        · exact a2 j (by omega) h6
      · rw [a3 j (by omega)]
        show upd (σ.2.1 45) k v j = _
        rw [u_is, if_neg (by omega)]
theorem x_fill45 (v : Int32) (σ : St) : ∃ g, F_xJ7_fill_53178v4 v σ = some (sA σ 45 g) ∧ ∀ j, j < 40 → g j = v := by
  obtain ⟨g, a1, a2, -⟩ := x_fill45_5 v FU 0 σ (by omega) (by rw [FU_is]; omega)
  exact ⟨g, a1, fun j hj => a2 j (Nat.zero_le _) hj⟩
theorem x_fill48_5 (v : Int32) : ∀ (f k : Nat) (σ : St), k ≤ 40 → 40 < f + k → ∃ g, F_xJ7_fill_53178v5_5 f v (nI k) 40 σ = some (sA σ 48 g) ∧ (∀ j, k ≤ j → j < 40 → g j = v) ∧ ∀ j, j < k → g j = σ.2.1 48 j := by
  intro f
  induction f with
  | zero => intro k σ h1 h2; omega
  | succ f ih =>
    intro k σ h1 h2
    unfold F_xJ7_fill_53178v5_5
    by_cases e : k = 40
    · subst e
      rw [if_pos (show (40 : Int32) ≤ nI 40 from nI_le (a := 40) (Nat.le_refl _) (by omega))]
      refine ⟨σ.2.1 48, ?_, fun j _ _ => by omega, fun _ _ => rfl⟩
      unfold sA
      rw [vf_self]
    · rw [if_neg (show ¬ (40 : Int32) ≤ nI k from nI_ge (a := k) (b := 40) (by omega) (by omega)), if_pos (ib_nI (by omega) (by omega)), nI_clamp (by omega), ← nI_succ]
      obtain ⟨g, a1, a2, a3⟩ := ih (k + 1) (sA σ 48 (upd (σ.2.1 48) k v)) (by omega) (by omega)
      refine ⟨g, ?_, fun j h5 h6 => ?_, fun j h5 => ?_⟩
      · rw [a1]
        unfold sA
        rw [vf2]
      · by_cases e2 : j = k
        · rw [a3 j (by omega)]
          show upd (σ.2.1 48) k v j = v
          rw [u_is, if_pos e2]
        · exact a2 j (by omega) h6
      · rw [a3 j (by omega)]
        show upd (σ.2.1 48) k v j = _
        rw [u_is, if_neg (by omega)]
theorem x_fill48 (v : Int32) (σ : St) : ∃ g, F_xJ7_fill_53178v5 v σ = some (sA σ 48 g) ∧ ∀ j, j < 40 → g j = v := by
  obtain ⟨g, a1, a2, -⟩ := x_fill48_5 v FU 0 σ (by omega) (by rw [FU_is]; omega)
  exact ⟨g, a1, fun j hj => a2 j (Nat.zero_le _) hj⟩
theorem x_fill49_5 (v : Int32) : ∀ (f k : Nat) (σ : St), k ≤ 40 → 40 < f + k → ∃ g, F_xJ7_fill_53178v6_5 f v (nI k) 40 σ = some (sA σ 49 g) ∧ (∀ j, k ≤ j → j < 40 → g j = v) ∧ ∀ j, j < k → g j = σ.2.1 49 j := by
  intro f
  induction f with
  | zero => intro k σ h1 h2; omega
  | succ f ih =>
    intro k σ h1 h2
    unfold F_xJ7_fill_53178v6_5
    by_cases e : k = 40
    · subst e
      rw [if_pos (show (40 : Int32) ≤ nI 40 from nI_le (a := 40) (Nat.le_refl _) (by omega))]
      refine ⟨σ.2.1 49, ?_, fun j _ _ => by omega, fun _ _ => rfl⟩
      unfold sA
      rw [vf_self]
    · rw [if_neg (show ¬ (40 : Int32) ≤ nI k from nI_ge (a := k) (b := 40) (by omega) (by omega)), if_pos (ib_nI (by omega) (by omega)), nI_clamp (by omega), ← nI_succ]
      obtain ⟨g, a1, a2, a3⟩ := ih (k + 1) (sA σ 49 (upd (σ.2.1 49) k v)) (by omega) (by omega)
      refine ⟨g, ?_, fun j h5 h6 => ?_, fun j h5 => ?_⟩
      · rw [a1]
        unfold sA
        rw [vf2]
      · by_cases e2 : j = k
        · rw [a3 j (by omega)]
          show upd (σ.2.1 49) k v j = v
          rw [u_is, if_pos e2]
        · exact a2 j (by omega) h6
      · rw [a3 j (by omega)]
        show upd (σ.2.1 49) k v j = _
        rw [u_is, if_neg (by omega)]
theorem x_fill49 (v : Int32) (σ : St) : ∃ g, F_xJ7_fill_53178v6 v σ = some (sA σ 49 g) ∧ ∀ j, j < 40 → g j = v := by
  obtain ⟨g, a1, a2, -⟩ := x_fill49_5 v FU 0 σ (by omega) (by rw [FU_is]; omega)
  exact ⟨g, a1, fun j hj => a2 j (Nat.zero_le _) hj⟩
theorem x_fill51_5 (v : Int32) : ∀ (f k : Nat) (σ : St), k ≤ 40 → 40 < f + k → ∃ g, F_xJ7_fill_53178v7_5 f v (nI k) 40 σ = some (sA σ 51 g) ∧ (∀ j, k ≤ j → j < 40 → g j = v) ∧ ∀ j, j < k → g j = σ.2.1 51 j := by
  intro f
  induction f with
  | zero => intro k σ h1 h2; omega
  | succ f ih =>
    intro k σ h1 h2
    unfold F_xJ7_fill_53178v7_5
    by_cases e : k = 40
    · subst e
      rw [if_pos (show (40 : Int32) ≤ nI 40 from nI_le (a := 40) (Nat.le_refl _) (by omega))]
      refine ⟨σ.2.1 51, ?_, fun j _ _ => by omega, fun _ _ => rfl⟩
      unfold sA
      rw [vf_self]
    · rw [if_neg (show ¬ (40 : Int32) ≤ nI k from nI_ge (a := k) (b := 40) (by omega) (by omega)), if_pos (ib_nI (by omega) (by omega)), nI_clamp (by omega), ← nI_succ]
      obtain ⟨g, a1, a2, a3⟩ := ih (k + 1) (sA σ 51 (upd (σ.2.1 51) k v)) (by omega) (by omega)
      refine ⟨g, ?_, fun j h5 h6 => ?_, fun j h5 => ?_⟩
      · rw [a1]
        unfold sA
        rw [vf2]
      · by_cases e2 : j = k
        · rw [a3 j (by omega)]
          show upd (σ.2.1 51) k v j = v
          rw [u_is, if_pos e2]
        · exact a2 j (by omega) h6
      · rw [a3 j (by omega)]
        show upd (σ.2.1 51) k v j = _
        rw [u_is, if_neg (by omega)]
theorem x_fill51 (v : Int32) (σ : St) : ∃ g, F_xJ7_fill_53178v7 v σ = some (sA σ 51 g) ∧ ∀ j, j < 40 → g j = v := by
  obtain ⟨g, a1, a2, -⟩ := x_fill51_5 v FU 0 σ (by omega) (by rw [FU_is]; omega)
  exact ⟨g, a1, fun j hj => a2 j (Nat.zero_le _) hj⟩
theorem x_fill50_5 (v : Int32) : ∀ (f k : Nat) (σ : St), k ≤ 40 → 40 < f + k → ∃ g, F_xJ7_fill_53178v8_5 f v (nI k) 40 σ = some (sA σ 50 g) ∧ (∀ j, k ≤ j → j < 40 → g j = v) ∧ ∀ j, j < k → g j = σ.2.1 50 j := by
  intro f
  induction f with
  | zero => intro k σ h1 h2; omega
  | succ f ih =>
    intro k σ h1 h2
    unfold F_xJ7_fill_53178v8_5
    by_cases e : k = 40
    · subst e
      rw [if_pos (show (40 : Int32) ≤ nI 40 from nI_le (a := 40) (Nat.le_refl _) (by omega))]
      refine ⟨σ.2.1 50, ?_, fun j _ _ => by omega, fun _ _ => rfl⟩
      unfold sA
      rw [vf_self]
    · rw [if_neg (show ¬ (40 : Int32) ≤ nI k from nI_ge (a := k) (b := 40) (by omega) (by omega)), if_pos (ib_nI (by omega) (by omega)), nI_clamp (by omega), ← nI_succ]
      obtain ⟨g, a1, a2, a3⟩ := ih (k + 1) (sA σ 50 (upd (σ.2.1 50) k v)) (by omega) (by omega)
      refine ⟨g, ?_, fun j h5 h6 => ?_, fun j h5 => ?_⟩
      · rw [a1]
        unfold sA
        rw [vf2]
      · by_cases e2 : j = k
        · rw [a3 j (by omega)]
          show upd (σ.2.1 50) k v j = v
          rw [u_is, if_pos e2]
        · exact a2 j (by omega) h6
      · rw [a3 j (by omega)]
        show upd (σ.2.1 50) k v j = _
        rw [u_is, if_neg (by omega)]
theorem x_fill50 (v : Int32) (σ : St) : ∃ g, F_xJ7_fill_53178v8 v σ = some (sA σ 50 g) ∧ ∀ j, j < 40 → g j = v := by
  obtain ⟨g, a1, a2, -⟩ := x_fill50_5 v FU 0 σ (by omega) (by rw [FU_is]; omega)
  exact ⟨g, a1, fun j hj => a2 j (Nat.zero_le _) hj⟩
def shI (s : Nat) : Int32 := if s = 0 then -1 else nI (s - 1)
theorem shI_0 (s : Nat) (h : s ≤ 1000) : shI s = -1 ↔ s = 0 := by
  unfold shI
  by_cases h0 : s = 0
  · rw [if_pos h0]; simp [h0]
  · rw [if_neg h0, i_eq, nI_toInt (by omega), show (-1 : Int32).toInt = -1 from rfl]
    constructor
    · intro z; omega
    · intro z; exact absurd z h0
/-- lives of all forty names: those that are none have none -/
def FO4 (c : Nat) (f4 f5 : Nat → Int32) : Prop := FOK c f4 f5 ∧ ∀ n, c ≤ n → f4 n = -1 ∧ f5 n = -1
theorem FO4.all {c : Nat} {f4 f5 : Nat → Int32} (h : FO4 c f4 f5) (d : Nat) : FOK d f4 f5 := fun n hn => by
  by_cases e : n < c
  · exact h.1 n e
  · exact Or.inl (h.2 n (by omega)).1
theorem fsF_ext {P : Nat → Bool} {jd : Nat → Nat} {c : Nat} (h : ∀ k, c ≤ k → P k = false) : ∀ d, fsF P jd (c + d) = fsF P jd c
  | 0 => rfl
  | d + 1 => by
    show fsF P jd (c + d + 1) = _
    conv => lhs; unfold fsF
    rw [h (c + d) (by omega), if_neg (by decide)]
    exact fsF_ext h d
theorem tkF_ext {f4 f5 : Nat → Int32} {n : Nat} {sN : Nat → Nat} {c : Nat} (h : ∀ k, c ≤ k → sN k = 0) : ∀ d, tkF f4 f5 n sN (c + d) = tkF f4 f5 n sN c
  | 0 => rfl
  | d + 1 => by
    show tkF f4 f5 n sN (c + d + 1) = _
    conv => lhs; unfold tkF
    rw [if_neg (fun z => z.1 (h (c + d) (by omega)))]
    exact tkF_ext h d
def XSh (f4 f5 : Nat → Int32) (sN : Nat → Nat) (σ : St) : Prop := ∀ k, k < 40 → σ.2.1 48 k = f4 k ∧ σ.2.1 49 k = f5 k ∧ σ.2.1 50 k = shI (sN k)
theorem x_next4 {c : Nat} {f4 f5 : Nat → Int32} {sN : Nat → Nat} {σ : St} (hF : FO4 c f4 f5) (hs : ∀ k, k < 40 → sN k ≤ 41) (h : XSh f4 f5 sN σ) : ∀ (f k : Nat), k ≤ 40 → 40 < f + k → F_xX7_nextToShare_4 f (ov (fsF (wtg f4 sN) (F4 f4) k)) (nI k) σ = some (ov (fsF (wtg f4 sN) (F4 f4) 40), σ) := by
  intro f
  induction f with
  | zero => intro k h1 h2; omega
  | succ f ih =>
    intro k h1 h2
    rw [F_xX7_nextToShare_4]
    by_cases e : k = 40
    · rw [if_pos (show (40 : Int32) ≤ nI k from nI_le (a := 40) (by omega) (by omega)), e]
    · have hk := h k (by omega)
      rw [if_neg (show ¬ (40 : Int32) ≤ nI k from nI_ge (a := k) (b := 40) (by omega) (by omega)), if_pos (ib_nI (by omega) (by omega)), nI_clamp (by omega), hk.1, hk.2.2]
      have ih' := ih (k + 1) (by omega) (by omega)
      unfold fsF at ih'
      have skip : wtg f4 sN k = false → F_xX7_nextToShare_35 (F_xX7_nextToShare_4 f) (ov (fsF (wtg f4 sN) (F4 f4) k)) (nI k) 0 σ = some (ov (fsF (wtg f4 sN) (F4 f4) 40), σ) := by
        intro hw
        unfold F_xX7_nextToShare_35
        rw [if_pos rfl, ← nI_succ]
        rw [hw, if_neg (by decide)] at ih'
        exact ih'
      by_cases h4 : f4 k = -1
      · rw [if_pos h4]
        exact skip (decide_eq_false (fun z => z.2 h4))
      · rw [if_neg h4]
        by_cases h5 : sN k = 0
        · rw [if_pos ((shI_0 _ (by have := hs k (by omega); omega)).mpr h5)]
          have hw : wtg f4 sN k = true := decide_eq_true ⟨h5, h4⟩
          rw [hw, if_pos rfl] at ih'
          unfold F_xX7_nextToShare_35
          rw [if_neg (by decide), ← nI_succ]
          cases hf : fsF (wtg f4 sN) (F4 f4) k with
          | none =>
            rw [hf] at ih'
            rw [if_pos (show ov none = -1 from rfl)]
            exact ih'
          | some a =>
            rw [hf] at ih'
            obtain ⟨a1, a2, -⟩ := fsF_some k a hf
            have a2 := of_decide_eq_true a2
            rw [show ov (some a) = nI a from rfl, if_neg (fun z => by rw [i_eq, nI_toInt (by omega), show (-1 : Int32).toInt = -1 from rfl] at z; omega), if_pos (ib_nI (by omega) (by omega)), if_pos (ib_nI (by omega) (by omega)), nI_clamp (n := a) (by omega), nI_clamp (n := k) (by omega), hk.1, (h a (by omega)).1]
            have hle := F4_le (hF.all 40) (a := a) (b := k) (by omega) (by omega) a2.2 h4
            by_cases h6 : F4 f4 a ≤ F4 f4 k
            · rw [if_pos (hle.mpr h6)]
              simp only [if_pos h6] at ih'
              exact ih'
            · rw [if_neg (fun z => h6 (hle.mp z))]
              simp only [if_neg h6] at ih'
              exact ih'
        · rw [if_neg (fun z => h5 ((shI_0 _ (by have := hs k (by omega); omega)).mp z))]
          exact skip (decide_eq_false (fun z => h5 z.1))
theorem x_next {c : Nat} {f4 f5 : Nat → Int32} {sN : Nat → Nat} {σ : St} (hc : c ≤ 40) (hF : FO4 c f4 f5) (hs : ∀ k, k < 40 → sN k ≤ 41) (h : XSh f4 f5 sN σ) : F_xX7_nextToShare σ = some (ov (nxS c f4 sN), σ) := by
  unfold F_xX7_nextToShare
  rw [show F_xX7_nextToShare_4 FU (-1) 0 σ = _ from x_next4 hF hs h FU 0 (by omega) (by rw [FU_is]; omega)]
  unfold nxS
  have := fsF_ext (P := wtg f4 sN) (jd := F4 f4) (c := c) (fun k hk => decide_eq_false (fun z => z.2 (hF.2 k hk).1)) (40 - c)
  rw [show c + (40 - c) = 40 by omega] at this
  rw [this]
def tkI (b : Bool) : Int32 := if b then 1 else 0
theorem x_lf96 {T : Nat → Bool} {σ : St} (h : ∀ s, s < 40 → σ.2.1 51 s = tkI (T s)) : ∀ (f g s : Nat), g + s = 40 → g < f → F_xX7_leastFreeShare_96 f (nI s) σ = some (nI (lfF T g s), σ) := by
  intro f
  induction f with
  | zero => intro g s _ h; omega
  | succ f ih =>
    intro g s h1 h2
    rw [F_xX7_leastFreeShare_96]
    cases g with
    | zero => rw [if_pos (show (40 : Int32) ≤ nI s from nI_le (a := 40) (by omega) (by omega))]; rfl
    | succ g =>
      rw [if_neg (show ¬ (40 : Int32) ≤ nI s from nI_ge (a := s) (b := 40) (by omega) (by omega)), if_pos (ib_nI (by omega) (by omega)), nI_clamp (by omega), h s (by omega), lfF]
      cases hT : T s with
      | false => rw [if_pos (show tkI false = 0 from rfl), if_neg (by decide)]
      | true =>
        rw [if_neg (show ¬ tkI true = 0 by decide), if_pos rfl, ← nI_succ]
        exact ih g (s + 1) (by omega) (by omega)
theorem x_lf10 {f4 f5 : Nat → Int32} {sN : Nat → Nat} {n : Nat} (hn : n < 40) (hs : ∀ k, k < 40 → sN k ≤ 40) : ∀ (f k : Nat) (σ : St), k ≤ 40 → 40 < f + k → XSh f4 f5 sN σ → (∀ s, s < 40 → σ.2.1 51 s = tkI (tkF f4 f5 n sN k s)) → ∃ σ', F_xX7_leastFreeShare_10 f (nI n) (nI k) σ = some (nI (lfF (tkF f4 f5 n sN 40) 40 0), σ') ∧ fr1 [] [51] σ σ' := by
  intro f
  induction f with
  | zero => intro k σ h1 h2; omega
  | succ f ih =>
    intro k σ h1 h2 h h51
    rw [F_xX7_leastFreeShare_10]
    by_cases e : k = 40
    · rw [if_pos (show (40 : Int32) ≤ nI k from nI_le (a := 40) (by omega) (by omega)), show F_xX7_leastFreeShare_96 FU 0 σ = _ from x_lf96 h51 FU 40 0 (by omega) (by rw [FU_is]; omega), e]
      exact ⟨σ, rfl, fr1.rf⟩
    · have hk := h k (by omega)
      have hnn := h n hn
      rw [if_neg (show ¬ (40 : Int32) ≤ nI k from nI_ge (a := k) (b := 40) (by omega) (by omega)), if_pos (ib_nI (by omega) (by omega)), if_pos (ib_nI (by omega) (by omega)), nI_clamp (n := n) (by omega), nI_clamp (n := k) (by omega), hk.1, hk.2.1, hnn.1, hnn.2.1]
      have skip : ¬ (sN k ≠ 0 ∧ mtP f4 f5 n k) → ∃ σ', F_xX7_leastFreeShare_10 f (nI n) (nI (k + 1)) σ = some (nI (lfF (tkF f4 f5 n sN 40) 40 0), σ') ∧ fr1 [] [51] σ σ' := by
        intro hno
        exact ih (k + 1) σ (by omega) (by omega) h (fun s hs2 => by
          rw [tkF, if_neg hno]; exact h51 s hs2)
      by_cases m1 : f5 n < f4 k
      · rw [if_pos m1]
        unfold F_xX7_leastFreeShare_51
        rw [if_pos rfl, ← nI_succ]
        exact skip (fun z => by have := z.2.1; rw [i_lt] at m1; rw [i_le] at this; omega)
      · rw [if_neg m1]
        by_cases m2 : f5 k < f4 n
        · rw [if_pos m2]
          unfold F_xX7_leastFreeShare_51
          rw [if_pos rfl, ← nI_succ]
          exact skip (fun z => by have := z.2.2; rw [i_lt] at m2; rw [i_le] at this; omega)
        · rw [if_neg m2]
          unfold F_xX7_leastFreeShare_51
          rw [if_neg (by decide), if_pos (ib_nI (by omega) (by omega)), nI_clamp (n := k) (by omega), hk.2.2, ← nI_succ]
          have hsk := hs k (by omega)
          by_cases h0 : sN k = 0
          · rw [if_pos (by rw [h0]; decide)]
            exact skip (fun z => z.1 h0)
          · have hsi : shI (sN k) = nI (sN k - 1) := by unfold shI; rw [if_neg h0]
            rw [hsi, if_neg (nI_pos (by omega)), if_neg (show ¬ (40 : Int32) ≤ nI (sN k - 1) from nI_ge (a := sN k - 1) (b := 40) (by omega) (by omega)), if_pos (ib_nI (by omega) (by omega)), nI_clamp (by omega)]
            have hmt : sN k ≠ 0 ∧ mtP f4 f5 n k := ⟨h0, by rw [i_lt] at m1; rw [i_le]; omega, by rw [i_lt] at m2; rw [i_le]; omega⟩
            obtain ⟨σ', a1, a2⟩ := ih (k + 1) (sA σ 51 (upd (σ.2.1 51) (sN k - 1) 1)) (by omega) (by omega) h (fun s hs2 => by
              show upd (σ.2.1 51) (sN k - 1) 1 s = _
              rw [tkF, if_pos hmt, u_is]
              by_cases e2 : s = sN k - 1
              · rw [if_pos e2]; simp only [if_pos e2]; rfl
              · rw [if_neg e2]; simp only [if_neg e2]; exact h51 s hs2)
            exact ⟨σ', a1, (fr1.rf.sA (by decide) : fr1 [] [51] σ _).tr a2⟩
theorem x_least {c : Nat} {f4 f5 : Nat → Int32} {sN : Nat → Nat} {n : Nat} {σ : St} (hc : c ≤ 40) (hn : n < c) (hs : ∀ k, k < 40 → sN k ≤ 40) (hs0 : ∀ k, c ≤ k → sN k = 0) (h : XSh f4 f5 sN σ) : ∃ σ', F_xX7_leastFreeShare (nI n) σ = some (nI (lfS c f4 f5 n sN), σ') ∧ fr1 [] [51] σ σ' := by
  unfold F_xX7_leastFreeShare
  obtain ⟨g, a1, a2⟩ := x_fill51 0 σ
  rw [a1, bv_is]
  obtain ⟨σ', b1, b2⟩ := x_lf10 (f4 := f4) (f5 := f5) (n := n) (by omega) hs FU 0 (sA σ 51 g) (by omega) (by rw [FU_is]; omega) h (fun s hs2 => a2 s hs2)
  have := tkF_ext (f4 := f4) (f5 := f5) (n := n) hs0 (40 - c)
  rw [show c + (40 - c) = 40 by omega] at this
  rw [this] at b1
  exact ⟨σ', b1, (fr1.rf.sA (by decide) : fr1 [] [51] σ _).tr b2⟩
theorem x_sh15 {c : Nat} {f4 f5 : Nat → Int32} (hc : c ≤ 40) (hF : FO4 c f4 f5) : ∀ (g f r : Nat) (sN : Nat → Nat) (nd : Nat) (σ : St), r ≤ 40 → unS c f4 sN ≤ g → unS c f4 sN ≤ r → r < f → SI c f4 f5 sN → (∀ k, c ≤ k → sN k = 0) → (∀ a, a < c → sN a ≤ nd) → nd ≤ needN f4 f5 c c → XSh f4 f5 sN σ → σ.1 30 = nI nd →
    ∃ σ', F_xX7_shareSpots_15 f (nI (40 - r)) σ = some σ' ∧ fr1 [30] [50, 51] σ σ' ∧ XSh f4 f5 (shL c f4 f5 g sN) σ' ∧ σ'.1 30 = nI (needN f4 f5 c c) := by
  have hN40 : needN f4 f5 c c ≤ 40 := by
    refine needN_lo (fun n _ _ => ?_) c (Nat.le_refl _)
    rw [ovl_ct]
    exact Nat.le_trans (fb_ct_le _ _) hc
  intro g
  induction g with
  | zero =>
    intro f r sN nd σ hr40 h1 h2 h3 hS h0 hm hnd hX h30
    have hno := un_0 (show unS c f4 sN = 0 by omega)
    have hge := sh_none hS hno hm
    obtain ⟨f, rfl⟩ : ∃ x, f = x + 1 := ⟨f - 1, by omega⟩
    have h40 : ∀ k, k < 40 → sN k ≤ 40 := fun k hk => by
      by_cases e : k < c
      · have := hm k e; omega
      · rw [h0 k (by omega)]; omega
    refine ⟨σ, ?_, fr1.rf, hX, by rw [h30]; congr 1; omega⟩
    rw [F_xX7_shareSpots_15]
    by_cases e : r = 0
    · rw [if_pos (show (40 : Int32) ≤ nI (40 - r) from nI_le (a := 40) (by omega) (by omega))]
    · rw [if_neg (show ¬ (40 : Int32) ≤ nI (40 - r) from nI_ge (a := 40 - r) (b := 40) (by omega) (by omega)), x_next hc hF (fun k hk => by have := h40 k hk; omega) hX, hno, bd_is, if_pos (show ov none = -1 from rfl)]
  | succ g ih =>
    intro f r sN nd σ hr40 h1 h2 h3 hS h0 hm hnd hX h30
    obtain ⟨f, rfl⟩ : ∃ x, f = x + 1 := ⟨f - 1, by omega⟩
    have h40 : ∀ k, k < 40 → sN k ≤ 40 := fun k hk => by
      by_cases e : k < c
      · have := hm k e; omega
      · rw [h0 k (by omega)]; omega
    rw [shL]
    cases hno : nxS c f4 sN with
    | none =>
      have hge := sh_none hS hno hm
      refine ⟨σ, ?_, fr1.rf, hX, by rw [h30]; congr 1; omega⟩
      rw [F_xX7_shareSpots_15]
      by_cases e : r = 0
      · rw [if_pos (show (40 : Int32) ≤ nI (40 - r) from nI_le (a := 40) (by omega) (by omega))]
      · rw [if_neg (show ¬ (40 : Int32) ≤ nI (40 - r) from nI_ge (a := 40 - r) (b := 40) (by omega) (by omega)), x_next hc hF (fun k hk => by have := h40 k hk; omega) hX, hno, bd_is, if_pos (show ov none = -1 from rfl)]
    | some n =>
      obtain ⟨s1, s2, s3, s4, s5, s6, s7⟩ := sh_step hc hF.1 hS hno
      rw [F_xX7_shareSpots_15, if_neg (show ¬ (40 : Int32) ≤ nI (40 - r) from nI_ge (a := 40 - r) (b := 40) (by omega) (by omega)), x_next hc hF (fun k hk => by have := h40 k hk; omega) hX, hno, bd_is, show ov (some n) = nI n from rfl, if_neg (fun z => by rw [i_eq, nI_toInt (by omega), show (-1 : Int32).toInt = -1 from rfl] at z; omega)]
      obtain ⟨σ1, a1, a2⟩ := x_least hc s1 h40 h0 hX
      rw [a1, bd_is, if_pos (ib_nI (by omega) (by omega)), nI_clamp (by omega), u_is, if_pos rfl, ← nI_succ, ← nI_succ, a2.1 30 (by decide), h30, show 40 - r + 1 = 40 - (r - 1) by omega]
      have hX1 : XSh f4 f5 sN σ1 := fun k hk => by
        rw [a2.2 48 (by decide), a2.2 49 (by decide), a2.2 50 (by decide)]; exact hX k hk
      have hndI : (if nI nd < nI (lfS c f4 f5 n sN + 1) then nI (lfS c f4 f5 n sN + 1) else nI nd) = nI (max nd (lfS c f4 f5 n sN + 1)) := by
        by_cases e : nd < lfS c f4 f5 n sN + 1
        · rw [if_pos (nI_lt e (by omega)), Nat.max_eq_right (by omega)]
        · rw [if_neg (fun z => e ((nI_ltI (by omega) (by omega)).mp z)), Nat.max_eq_left (by omega)]
      rw [hndI]
      obtain ⟨σ2, b1, b2, b3, b4⟩ := ih f (r - 1) (shT c f4 f5 n sN) (max nd (lfS c f4 f5 n sN + 1)) (sA (sI σ1 30 (nI (max nd (lfS c f4 f5 n sN + 1)))) 50 (upd (σ1.2.1 50) n (nI (lfS c f4 f5 n sN)))) (by omega) (by omega) (by omega) (by omega) s6 (fun k hk => by
          unfold shT
          show (if k = n then _ else sN k) = 0
          rw [if_neg (by omega)]; exact h0 k hk) (fun a ha => by
          unfold shT
          show (if a = n then _ else sN a) ≤ _
          by_cases e : a = n
          · rw [if_pos e]; exact Nat.le_max_right _ _
          · rw [if_neg e]; exact Nat.le_trans (hm a ha) (Nat.le_max_left _ _)) (Nat.max_le.mpr ⟨hnd, s5⟩) (fun k hk => by
          refine ⟨(hX1 k hk).1, (hX1 k hk).2.1, ?_⟩
          show upd (σ1.2.1 50) n (nI (lfS c f4 f5 n sN)) k = shI (if k = n then lfS c f4 f5 n sN + 1 else sN k)
          rw [u_is]
          by_cases e : k = n
          · rw [if_pos e, if_pos e]; unfold shI; rw [if_neg (by omega)]; rfl
          · rw [if_neg e, if_neg e]; exact (hX1 k hk).2.2) rfl
      refine ⟨σ2, b1, ((a2.wk (by decide) (by decide) : fr1 [30] [50, 51] σ σ1).tr ((fr1.rf.sI (by decide)).sA (by decide))).tr b2, b3, b4⟩
