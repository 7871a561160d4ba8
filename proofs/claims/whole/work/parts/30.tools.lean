/-! pure tools: reads of a state behind its writes, numbers -/
theorem rI_I (σ : St) (k j : Nat) (v : Int32) : (sI σ k v).1 j = if j = k then v else σ.1 j := rfl
theorem rI_A (σ : St) (k : Nat) (v : Int32) : (sI σ k v).2 = σ.2 := rfl
theorem rA_I (σ : St) (k : Nat) (f : Nat → Int32) : (sA σ k f).1 = σ.1 := rfl
theorem rA_A (σ : St) (k j : Nat) (f : Nat → Int32) : (sA σ k f).2.1 j = if j = k then f else σ.2.1 j := rfl
theorem rA_L (σ : St) (k : Nat) (f : Nat → Int32) : (sA σ k f).2.2 = σ.2.2 := rfl
theorem rJ_I (σ : St) (k : Nat) (v : Int64) : (sJ σ k v).1 = σ.1 := rfl
theorem rJ_A (σ : St) (k : Nat) (v : Int64) : (sJ σ k v).2.1 = σ.2.1 := rfl
theorem rJ_J (σ : St) (k j : Nat) (v : Int64) : (sJ σ k v).2.2.1 j = if j = k then v else σ.2.2.1 j := rfl
theorem rJ_B (σ : St) (k : Nat) (v : Int64) : (sJ σ k v).2.2.2 = σ.2.2.2 := rfl
theorem rB_I (σ : St) (k : Nat) (f : Nat → Int64) : (sB σ k f).1 = σ.1 := rfl
theorem rB_A (σ : St) (k : Nat) (f : Nat → Int64) : (sB σ k f).2.1 = σ.2.1 := rfl
theorem rB_J (σ : St) (k : Nat) (f : Nat → Int64) : (sB σ k f).2.2.1 = σ.2.2.1 := rfl
theorem rB_B (σ : St) (k j : Nat) (f : Nat → Int64) : (sB σ k f).2.2.2 j = if j = k then f else σ.2.2.2 j := rfl
theorem bd_is {R : Type} (x : Int32) (σ : St) (k : Int32 → St → Option R) : bd (some (x, σ)) k = k x σ := rfl
theorem bv_is {R : Type} (σ : St) (k : St → Option R) : bv (some σ) k = k σ := rfl
theorem nm_is {α β : Type} (x : α) (k : α → β) : nm x k = k x := rfl
theorem u_is (f : Nat → Int32) (k j : Nat) (x : Int32) : upd f k x j = if j = k then x else f j := by
  by_cases h : j = k
  · subst h; rw [pk_us, if_pos rfl]
  · rw [pk_un h, if_neg h]
theorem uL_is (f : Nat → Int64) (k j : Nat) (x : Int64) : vp_updL f k x j = if j = k then x else f j := rfl
theorem ib_nI {i n : Nat} (h : i < n) (hn : n < 2 ^ 31) : ib (nI i) n = true := by
  simp only [ib, Bool.and_eq_true, Bool.not_eq_true', decide_eq_false_iff_not, decide_eq_true_eq]
  exact ⟨nI_pos (by omega), by rw [nI_clamp (by omega)]; exact h⟩
theorem ib_iff {x : Int32} {n : Nat} : ib x n = true ↔ 0 ≤ x.toInt ∧ x.toInt < n := by
  constructor
  · intro h; exact vp_in_iff.mp (ib_in h)
  · intro h
    have h1 := vp_in_iff.mpr h
    simp only [ib, Bool.and_eq_true, Bool.not_eq_true', decide_eq_false_iff_not, decide_eq_true_eq]
    exact ⟨fun q => h1 (Or.inl q), vp_lt h1⟩
theorem ib_of {x : Int32} {n : Nat} (h : ib x n = true) (hn : n < 2 ^ 31) : ∃ j, j < n ∧ x = nI j := vp_in_of (ib_in h) hn
theorem lt_nI {a b : Nat} (ha : a < 2 ^ 31) (hb : b < 2 ^ 31) : (nI a < nI b) = (a < b) := propext (nI_ltI ha hb)
theorem le_nI {a b : Nat} (ha : a < 2 ^ 31) (hb : b < 2 ^ 31) : (nI a ≤ nI b) = (a ≤ b) := propext (nI_leI ha hb)
theorem eq_nI {a b : Nat} (ha : a < 2 ^ 31) (hb : b < 2 ^ 31) : (nI a = nI b) = (a = b) := propext (nI_eq ha hb)
theorem i_lt {x y : Int32} : x < y ↔ x.toInt < y.toInt := Int32.lt_iff_toInt_lt
theorem i_le {x y : Int32} : x ≤ y ↔ x.toInt ≤ y.toInt := Int32.le_iff_toInt_le
theorem i_eq {x y : Int32} : x = y ↔ x.toInt = y.toInt := Int32.toInt_inj.symm
/-- a name in 0 .. c-1, or not -/
theorem nm_cases (x : Int32) {c : Nat} (hc : c < 2 ^ 31) : (∃ j, j < c ∧ x = nI j) ∨ ((x < 0 ∨ nI c ≤ x) ∧ ∀ j, j < c → x ≠ nI j) := by
  rcases pk_ix x hc with h | h | h
  · right
    refine ⟨Or.inl h, fun j hj e => ?_⟩
    rw [e] at h
    exact nI_pos (by omega) h
  · right
    refine ⟨Or.inr h, fun j hj e => ?_⟩
    rw [e] at h
    exact nI_ge hj hc h
  · left; exact h
/-- a state that is another but at some places -/
def fr1 (S Q : List Nat) (σ σ' : St) : Prop := (∀ k, k ∉ S → σ'.1 k = σ.1 k) ∧ (∀ a, a ∉ Q → σ'.2.1 a = σ.2.1 a)
theorem fr1.rf {S Q : List Nat} {σ : St} : fr1 S Q σ σ := ⟨fun _ _ => rfl, fun _ _ => rfl⟩
theorem fr1.tr {S Q : List Nat} {σ σ' σ'' : St} (h : fr1 S Q σ σ') (h2 : fr1 S Q σ' σ'') : fr1 S Q σ σ'' := ⟨fun k hk => (h2.1 k hk).trans (h.1 k hk), fun a ha => (h2.2 a ha).trans (h.2 a ha)⟩
theorem fr1.wk {S Q S' Q' : List Nat} {σ σ' : St} (h : fr1 S Q σ σ') (h1 : ∀ k, k ∈ S → k ∈ S') (h2 : ∀ k, k ∈ Q → k ∈ Q') : fr1 S' Q' σ σ' := ⟨fun k hk => h.1 k (fun q => hk (h1 k q)), fun a ha => h.2 a (fun q => ha (h2 a q))⟩
theorem fr1.sI {S Q : List Nat} {σ σ' : St} {k : Nat} {v : Int32} (h : fr1 S Q σ σ') (hk : k ∈ S) : fr1 S Q σ (sI σ' k v) := ⟨fun j hj => by rw [rI_I, if_neg (fun e : j = k => hj (by rw [e]; exact hk))]; exact h.1 j hj, fun a ha => h.2 a ha⟩
theorem fr1.sA {S Q : List Nat} {σ σ' : St} {k : Nat} {f : Nat → Int32} (h : fr1 S Q σ σ') (hk : k ∈ Q) : fr1 S Q σ (sA σ' k f) := ⟨fun j hj => h.1 j hj, fun a ha => by rw [rA_A, if_neg (fun e : a = k => ha (by rw [e]; exact hk))]; exact h.2 a ha⟩
