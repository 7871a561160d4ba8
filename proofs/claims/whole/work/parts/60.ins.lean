/-! a sorted row, and which names are chosen -/
def insF (s : Nat) : Nat → (Nat → Nat) → (Nat → Nat)
  | 0, f => vf_upd f 0 s
  | j + 1, f => if f j ≤ s then vf_upd f (j + 1) s else insF s j (vf_upd f (j + 1) (f j))
/-- sorted but for a hole -/
def SRh (k j : Nat) (f : Nat → Nat) : Prop := ∀ a b, a < b → b ≤ k → a ≠ j → b ≠ j → f a < f b
theorem ins_sr {s k : Nat} : ∀ (j : Nat) (f : Nat → Nat), j ≤ k → SRh k j f → (∀ i, i ≤ k → i ≠ j → f i ≠ s) → (∀ i, j < i → i ≤ k → s < f i) → ∀ a b, a < b → b ≤ k → insF s j f a < insF s j f b
  | 0, f, hj, hs, hn, hg => by
    intro a b hab hb
    show vf_upd f 0 s a < vf_upd f 0 s b
    unfold vf_upd
    rw [if_neg (show ¬ b = 0 by omega)]
    by_cases e : a = 0
    · rw [if_pos e]; exact hg b (by omega) hb
    · rw [if_neg e]; exact hs a b hab hb e (by omega)
  | j + 1, f, hj, hs, hn, hg => by
    unfold insF
    have hne := hn j (by omega) (by omega)
    by_cases h : f j ≤ s
    · rw [if_pos h]
      intro a b hab hb
      unfold vf_upd
      by_cases e1 : b = j + 1
      · rw [if_pos e1, if_neg (by omega)]
        by_cases e2 : a = j
        · rw [e2]; omega
        · have := hs a j (by omega) (by omega) (by omega) (by omega)
          omega
      · rw [if_neg e1]
        by_cases e2 : a = j + 1
        · rw [if_pos e2]; exact hg b (by omega) hb
        · rw [if_neg e2]; exact hs a b hab hb e2 e1
    · rw [if_neg h]
      refine ins_sr j _ (by omega) ?_ ?_ ?_
      · intro a b hab hb ha hbj
        unfold vf_upd
        by_cases e1 : b = j + 1
        · rw [if_pos e1, if_neg (by omega)]
          exact hs a j (by omega) (by omega) (by omega) (by omega)
        · rw [if_neg e1]
          by_cases e2 : a = j + 1
          · rw [if_pos e2]; exact hs j b (by omega) hb (by omega) e1
          · rw [if_neg e2]; exact hs a b hab hb e2 e1
      · intro i hi hij
        unfold vf_upd
        by_cases e : i = j + 1
        · rw [if_pos e]; exact hne
        · rw [if_neg e]; exact hn i hi e
      · intro i hi hik
        unfold vf_upd
        by_cases e : i = j + 1
        · rw [if_pos e]; omega
        · rw [if_neg e]; exact hg i (by omega) hik
theorem ins_val {s k : Nat} (v : Nat) : ∀ (j : Nat) (f : Nat → Nat), j ≤ k → ((∃ i, i ≤ k ∧ insF s j f i = v) ↔ (v = s ∨ ∃ i, i ≤ k ∧ i ≠ j ∧ f i = v))
  | 0, f, hj => by
    constructor
    · rintro ⟨i, hi, e⟩
      have e' : (if i = 0 then s else f i) = v := e
      by_cases h : i = 0
      · rw [if_pos h] at e'; exact Or.inl e'.symm
      · rw [if_neg h] at e'; exact Or.inr ⟨i, hi, h, e'⟩
    · rintro (e | ⟨i, hi, h, e⟩)
      · exact ⟨0, Nat.zero_le _, e.symm⟩
      · refine ⟨i, hi, ?_⟩
        show (if i = 0 then s else f i) = v
        rw [if_neg h]; exact e
  | j + 1, f, hj => by
    unfold insF
    by_cases hh : f j ≤ s
    · rw [if_pos hh]
      constructor
      · rintro ⟨i, hi, e⟩
        have e' : (if i = j + 1 then s else f i) = v := e
        by_cases h : i = j + 1
        · rw [if_pos h] at e'; exact Or.inl e'.symm
        · rw [if_neg h] at e'; exact Or.inr ⟨i, hi, h, e'⟩
      · rintro (e | ⟨i, hi, h, e⟩)
        · refine ⟨j + 1, hj, ?_⟩
          show (if j + 1 = j + 1 then s else f (j + 1)) = v
          rw [if_pos rfl]; exact e.symm
        · refine ⟨i, hi, ?_⟩
          show (if i = j + 1 then s else f i) = v
          rw [if_neg h]; exact e
    · rw [if_neg hh, ins_val v j _ (by omega)]
      constructor
      · rintro (e | ⟨i, hi, h, e⟩)
        · exact Or.inl e
        · have e' : (if i = j + 1 then f j else f i) = v := e
          by_cases h2 : i = j + 1
          · rw [if_pos h2] at e'; exact Or.inr ⟨j, by omega, by omega, e'⟩
          · rw [if_neg h2] at e'; exact Or.inr ⟨i, hi, h2, e'⟩
      · rintro (e | ⟨i, hi, h, e⟩)
        · exact Or.inl e
        · right
          by_cases h2 : i = j
          · refine ⟨j + 1, hj, by omega, ?_⟩
            show (if j + 1 = j + 1 then f j else f (j + 1)) = v
            rw [if_pos rfl, ← h2]; exact e
          · refine ⟨i, hi, h2, ?_⟩
            show (if i = j + 1 then f j else f i) = v
            rw [if_neg h]; exact e
/-- the row after the names below n -/
def rwF (B : Nat → Bool) (sp : Nat → Nat) : Nat → (Nat → Nat)
  | 0 => fun _ => 0
  | n + 1 => if B n then insF (sp n) (fb_ct B n) (rwF B sp n) else rwF B sp n
theorem fb_mono (B : Nat → Bool) {a b : Nat} (h : a ≤ b) : fb_ct B a ≤ fb_ct B b := by
  induction b with
  | zero => rw [show a = 0 by omega]; exact Nat.le_refl _
  | succ b ih =>
    by_cases e : a = b + 1
    · rw [e]; exact Nat.le_refl _
    · exact Nat.le_trans (ih (by omega)) (by rw [fb_ct_succ]; omega)
theorem fb_lt (B : Nat → Bool) {a b : Nat} (h : a < b) (hB : B a = true) : fb_ct B a < fb_ct B b := by
  have := fb_mono B (show a + 1 ≤ b from h)
  rw [fb_ct_succ, if_pos hB] at this
  omega
theorem fb_inj (B : Nat → Bool) {a b : Nat} (ha : B a = true) (hb : B b = true) (e : fb_ct B a = fb_ct B b) : a = b := by
  rcases Nat.lt_trichotomy a b with h | h | h
  · have := fb_lt B h ha; omega
  · exact h
  · have := fb_lt B h hb; omega
theorem fb_nth (B : Nat → Bool) : ∀ n k, k < fb_ct B n → ∃ m, m < n ∧ B m = true ∧ fb_ct B m = k
  | 0, k, h => by cases h
  | n + 1, k, h => by
    rw [fb_ct_succ] at h
    by_cases hk : k < fb_ct B n
    · obtain ⟨m, h1, h2, h3⟩ := fb_nth B n k hk
      exact ⟨m, by omega, h2, h3⟩
    · cases hB : B n with
      | false => rw [hB] at h; simp at h; omega
      | true => rw [hB] at h; simp at h; exact ⟨n, by omega, hB, by omega⟩
theorem fb_stop (B : Nat → Bool) {n : Nat} : ∀ m, n ≤ m → (∀ k, n ≤ k → B k = false) → fb_ct B m = fb_ct B n
  | 0, h, _ => by rw [show n = 0 by omega]
  | m + 1, h, hB => by
    by_cases e : n = m + 1
    · rw [e]
    · rw [fb_ct_succ, hB m (by omega)]
      exact fb_stop B m (by omega) hB
theorem rw_ok {B : Nat → Bool} {sp : Nat → Nat} {c : Nat} (hi : ∀ m n, m < c → n < c → sp m = sp n → m = n) : ∀ n, n ≤ c → (∀ a b, a < b → b < fb_ct B n → rwF B sp n a < rwF B sp n b) ∧ ∀ v, (∃ i, i < fb_ct B n ∧ rwF B sp n i = v) ↔ ∃ m, m < n ∧ B m = true ∧ sp m = v
  | 0, _ => ⟨fun a b _ h => (by cases h), fun v => ⟨fun ⟨i, h, _⟩ => (by cases h), fun ⟨m, h, _⟩ => (by cases h)⟩⟩
  | n + 1, hn => by
    obtain ⟨h1, h2⟩ := rw_ok hi n (by omega)
    unfold rwF
    rw [fb_ct_succ]
    cases hB : B n with
    | false =>
      simp only [Bool.false_eq_true, if_false, Nat.add_zero]
      refine ⟨h1, fun v => (h2 v).trans ⟨fun ⟨m, a1, a2, a3⟩ => ⟨m, by omega, a2, a3⟩, fun ⟨m, a1, a2, a3⟩ => ⟨m, ?_, a2, a3⟩⟩⟩
      rcases Nat.lt_or_ge m n with h | h
      · exact h
      · rw [show m = n by omega, hB] at a2; cases a2
    | true =>
      simp only [if_true]
      have hnew : ∀ i, i < fb_ct B n → rwF B sp n i ≠ sp n := by
        intro i hlt e
        obtain ⟨m, a1, a2, a3⟩ := (h2 (sp n)).mp ⟨i, hlt, e⟩
        have := hi m n (by omega) (by omega) a3
        omega
      refine ⟨fun a b hab hb => ?_, fun v => ?_⟩
      · refine ins_sr (k := fb_ct B n) (fb_ct B n) _ (Nat.le_refl _) ?_ ?_ ?_ a b hab (by omega)
        · intro a b hab hb ha hb2
          exact h1 a b hab (by omega)
        · intro i hik hne
          exact hnew i (by omega)
        · intro i hgt hle
          omega
      · have hv := ins_val (s := sp n) (k := fb_ct B n) v (fb_ct B n) (rwF B sp n) (Nat.le_refl _)
        constructor
        · rintro ⟨i, hlt, e⟩
          rcases hv.mp ⟨i, by omega, e⟩ with e2 | ⟨i, a1, a2, a3⟩
          · exact ⟨n, by omega, hB, e2.symm⟩
          · obtain ⟨m, b1, b2, b3⟩ := (h2 v).mp ⟨i, by omega, a3⟩
            exact ⟨m, by omega, b2, b3⟩
        · rintro ⟨m, b1, b2, b3⟩
          have : ∃ i, i ≤ fb_ct B n ∧ insF (sp n) (fb_ct B n) (rwF B sp n) i = v := by
            refine hv.mpr ?_
            by_cases e : m = n
            · left; rw [← b3, e]
            · right
              obtain ⟨i, a1, a2⟩ := (h2 v).mpr ⟨m, by omega, b2, b3⟩
              exact ⟨i, by omega, by omega, a2⟩
          obtain ⟨i, a1, a2⟩ := this
          exact ⟨i, by omega, a2⟩
