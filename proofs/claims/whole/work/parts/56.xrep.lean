/-! the class's report -/
abbrev sf4 (S : Sm) : Nat → Int32 := S.2.2.2.2.2.1
abbrev sf5 (S : Sm) : Nat → Int32 := S.2.2.2.2.2.2
def SFo (c i : Nat) (S : Sm) : Prop := (∀ n, n < c → (sf4 S n = -1 ∧ sf5 S n = -1) ∨ ∃ a b, sf4 S n = nI a ∧ sf5 S n = nI b ∧ a ≤ b ∧ b < i) ∧ ∀ n, c ≤ n → sf4 S n = -1 ∧ sf5 S n = -1
theorem SFo.mono {c i : Nat} {S : Sm} (h : SFo c i S) : SFo c (i + 1) S := ⟨fun n hn => by
  rcases h.1 n hn with h1 | ⟨a, b, h1, h2, h3, h4⟩
  · exact Or.inl h1
  · exact Or.inr ⟨a, b, h1, h2, h3, by omega⟩, h.2⟩
theorem nI_m1 {a : Nat} (h : a < 2 ^ 31) : ¬ nI a = -1 := fun z => by
  rw [i_eq, nI_toInt h, show (-1 : Int32).toInt = -1 from rfl] at z; omega
theorem SFo.meet {c i p r n : Nat} {S : Sm} (hi : i < 2000) (hn : n < c) (h : SFo c (i + 1) S) : SFo c (i + 1) (meetS p r n i S) := by
  refine ⟨fun k hk => ?_, fun k hk => ?_⟩
  · show ((if sf4 S n = -1 then upd (sf4 S) n (nI i) else sf4 S) k = -1 ∧ upd (sf5 S) n (nI i) k = -1) ∨ ∃ a b, (if sf4 S n = -1 then upd (sf4 S) n (nI i) else sf4 S) k = nI a ∧ upd (sf5 S) n (nI i) k = nI b ∧ a ≤ b ∧ b < i + 1
    rw [u_is]
    by_cases e : k = n
    · subst e
      rw [if_pos rfl]
      right
      rcases h.1 k hk with h1 | ⟨a, b, h1, h2, h3, h4⟩
      · rw [if_pos h1.1, u_is, if_pos rfl]
        exact ⟨i, i, rfl, rfl, Nat.le_refl _, by omega⟩
      · rw [if_neg (by rw [h1]; exact nI_m1 (by omega))]
        exact ⟨a, i, h1, rfl, by omega, by omega⟩
    · rw [if_neg e]
      by_cases e2 : sf4 S n = -1
      · rw [if_pos e2, u_is, if_neg e]; exact h.1 k hk
      · rw [if_neg e2]; exact h.1 k hk
  · show (if sf4 S n = -1 then upd (sf4 S) n (nI i) else sf4 S) k = -1 ∧ upd (sf5 S) n (nI i) k = -1
    rw [u_is (sf5 S), if_neg (show ¬ k = n by omega)]
    by_cases e2 : sf4 S n = -1
    · rw [if_pos e2, u_is, if_neg (show ¬ k = n by omega)]; exact h.2 k hk
    · rw [if_neg e2]; exact h.2 k hk
theorem SFo.ev {c i : Nat} {ph rn : Nat → Nat} {S : Sm} {e : Nat × Nat × Nat} (hi : i < 2000) (he : e.1 < c ∧ (e.2.1 = 63 ∨ e.2.1 < c) ∧ e.2.2 < 64) (h : SFo c i S) : SFo c (i + 1) (evS ph rn i e S) := by
  unfold evS
  by_cases h63 : e.2.1 = 63
  · rw [if_pos h63]
    exact h.mono.meet hi he.1
  · rw [if_neg h63]
    exact SFo.meet (S := aoS e.1 (meetS (ph e.1) (rn e.1) e.1 i S)) hi (he.2.1.resolve_left h63) (h.mono.meet hi he.1)
theorem SFo.stL {c : Nat} {ph rn : Nat → Nat} : ∀ (l : List (Nat × Nat × Nat)) (i : Nat) (S : Sm), EVok c l → i + l.length ≤ 2000 → SFo c i S → SFo c (i + l.length) (stL ph rn l i S) := by
  intro l
  induction l with
  | nil => intro i S _ _ h; exact h
  | cons e l ih =>
    intro i S he hl h
    have hl' : i + (l.length + 1) ≤ 2000 := hl
    have := ih (i + 1) (evS ph rn i e S) (fun x hx => he x (List.mem_cons_of_mem _ hx)) (by omega) (h.ev (by omega) (he e List.mem_cons_self))
    rw [show i + 1 + l.length = i + (e :: l).length by simp only [List.length_cons]; omega] at this
    exact this
theorem SFo_0 (c : Nat) : SFo c 0 S0 := ⟨fun _ _ => Or.inl ⟨rfl, rfl⟩, fun _ _ => ⟨rfl, rfl⟩⟩
theorem SFo.FO4 {c i : Nat} {S : Sm} (h : SFo c i S) (hi : i ≤ 2000) : FO4 c (sf4 S) (sf5 S) := ⟨fun n hn => by
  rcases h.1 n hn with h1 | ⟨a, b, h1, h2, h3, h4⟩
  · exact Or.inl h1.1
  · exact Or.inr ⟨a, b, h1, h2, h3, by omega⟩, h.2⟩
def XSt (c : Nat) (S : Sm) (σ : St) : Prop := σ.1 28 = nI S.1 ∧ σ.1 29 = nI S.2.1 ∧ (∀ n, n < c → σ.2.1 43 n = nI (S.2.2.1 n) ∧ σ.2.1 44 n = nI (S.2.2.2.1 n) ∧ σ.2.1 45 n = nI (S.2.2.2.2.1 n)) ∧ ∀ n, n < 40 → σ.2.1 48 n = sf4 S n ∧ σ.2.1 49 n = sf5 S n
theorem x_meet {c : Nat} (hc : c ≤ 40) {ph rn : Nat → Nat} (hr : ∀ n, n < c → 0 < rn n ∧ rn n ≤ 32) {σ : St} {S : Sm} {n i : Nat} (hn : n < c) (hX : ∀ n, n < c → σ.2.1 27 n = nI (ph n % rn n) ∧ σ.2.1 28 n = nI (rn n)) (ht : S.1 < 2 ^ 30) (h : XSt c S σ) : ∃ σ', F_xX7_meet (nI n) (nI i) σ = some σ' ∧ fr1 [28, 29] [45, 48, 49] σ σ' ∧ XSt c (meetS (ph n) (rn n) n i S) σ' := by
  have hr1 := hr n hn
  have hX1 := hX n hn
  have hm1 : ph n % rn n < rn n := Nat.mod_lt _ hr1.1
  unfold F_xX7_meet
  rw [if_neg (nI_pos (by omega)), if_pos (show nI n < (40 : Int32) from nI_lt (a := n) (b := 40) (by omega) (by omega)), h.1, x_wait (by omega) hX1.1 hX1.2 hm1 hr1.2 ht, bd_is, wt_mod, if_pos (ib_nI (by omega) (by omega)), nI_clamp (by omega), (h.2.2.2 n (by omega)).1, h.1, h.2.1, (h.2.2.1 n hn).2.2, nI_add, ← nI_succ, ← nI_succ, nI_add]
  have h45 : ∀ k, k < c → upd (σ.2.1 45) n (nI (S.2.2.2.2.1 n + wt (ph n) (rn n) S.1)) k = nI (vf_upd S.2.2.2.2.1 n (S.2.2.2.2.1 n + wt (ph n) (rn n) S.1) k) := fun k hk => by
    show _ = nI (if k = n then _ else _)
    rw [u_is]
    by_cases e : k = n
    · rw [if_pos e, if_pos e]
    · rw [if_neg e, if_neg e]; exact (h.2.2.1 k hk).2.2
  have h49 : ∀ k, k < 40 → upd (σ.2.1 49) n (nI i) k = upd (sf5 S) n (nI i) k := fun k hk => by
    rw [u_is, u_is]
    by_cases e : k = n
    · rw [if_pos e, if_pos e]
    · rw [if_neg e, if_neg e]; exact (h.2.2.2 k hk).2
  by_cases h4 : sf4 S n = -1
  · rw [if_pos h4]
    refine ⟨_, rfl, ((((fr1.rf.sI (by decide)).sI (by decide)).sA (by decide)).sA (by decide)).sA (by decide), rfl, rfl, fun k hk => ⟨(h.2.2.1 k hk).1, (h.2.2.1 k hk).2.1, h45 k hk⟩, fun k hk => ⟨?_, h49 k hk⟩⟩
    show upd (σ.2.1 48) n (nI i) k = (if sf4 S n = -1 then upd (sf4 S) n (nI i) else sf4 S) k
    rw [if_pos h4, u_is, u_is]
    by_cases e : k = n
    · rw [if_pos e, if_pos e]
    · rw [if_neg e, if_neg e]; exact (h.2.2.2 k hk).1
  · rw [if_neg h4]
    refine ⟨_, rfl, (((fr1.rf.sI (by decide)).sI (by decide)).sA (by decide)).sA (by decide), rfl, rfl, fun k hk => ⟨(h.2.2.1 k hk).1, (h.2.2.1 k hk).2.1, h45 k hk⟩, fun k hk => ⟨?_, h49 k hk⟩⟩
    show σ.2.1 48 k = (if sf4 S n = -1 then upd (sf4 S) n (nI i) else sf4 S) k
    rw [if_neg h4]
    exact (h.2.2.2 k hk).1
theorem XSt_ao {c : Nat} {S : Sm} {σ : St} {n : Nat} (hn : n < c) (h : XSt c S σ) : XSt c (aoS n S) (sA σ 43 (upd (σ.2.1 43) n (σ.2.1 43 n + 1))) := by
  refine ⟨h.1, h.2.1, fun k hk => ⟨?_, (h.2.2.1 k hk).2.1, (h.2.2.1 k hk).2.2⟩, h.2.2.2⟩
  show upd (σ.2.1 43) n (σ.2.1 43 n + 1) k = nI (if k = n then S.2.2.1 n + 1 else S.2.2.1 k)
  rw [u_is]
  by_cases e : k = n
  · rw [if_pos e, if_pos e, (h.2.2.1 n hn).1, ← nI_succ]
  · rw [if_neg e, if_neg e]; exact (h.2.2.1 k hk).1
theorem XSt_aw {c : Nat} {S : Sm} {σ : St} {n : Nat} (hn : n < c) (h : XSt c S σ) : XSt c (awS n S) (sA σ 44 (upd (σ.2.1 44) n (σ.2.1 44 n + 1))) := by
  refine ⟨h.1, h.2.1, fun k hk => ⟨(h.2.2.1 k hk).1, ?_, (h.2.2.1 k hk).2.2⟩, h.2.2.2⟩
  show upd (σ.2.1 44) n (σ.2.1 44 n + 1) k = nI (if k = n then S.2.2.2.1 n + 1 else S.2.2.2.1 k)
  rw [u_is]
  by_cases e : k = n
  · rw [if_pos e, if_pos e, (h.2.2.1 n hn).2.1, ← nI_succ]
  · rw [if_neg e, if_neg e]; exact (h.2.2.1 k hk).2.1
theorem evS_le {c : Nat} {ph rn : Nat → Nat} (hr : ∀ n, n < c → 0 < rn n ∧ rn n ≤ 32) {i : Nat} {e : Nat × Nat × Nat} {S : Sm} (he : e.1 < c ∧ (e.2.1 = 63 ∨ e.2.1 < c) ∧ e.2.2 < 64) : (evS ph rn i e S).1 ≤ S.1 + 130 := by
  rw [evS_t]
  have h1 := wt_lt (p := ph e.1) (t := S.1) (hr e.1 he.1).1
  have h2 := (hr e.1 he.1).2
  by_cases hw : e.2.1 = 63
  · rw [if_pos hw]; omega
  · rw [if_neg hw]
    have h6 := hr e.2.1 (he.2.1.resolve_left hw)
    have h7 := wt_lt (p := ph e.2.1) (t := S.1 + wt (ph e.1) (rn e.1) S.1 + 1) h6.1
    omega
theorem x_cs12 {c : Nat} (hc : c ≤ 40) {ph rn : Nat → Nat} (hr : ∀ n, n < c → 0 < rn n ∧ rn n ≤ 32) : ∀ (n : Nat) (l : List (Nat × Nat × Nat)) (i : Nat) (S : Sm) (σ : St), (∀ n, n < c → σ.2.1 27 n = nI (ph n % rn n) ∧ σ.2.1 28 n = nI (rn n)) → TR (σ.2.1 38) i l → EVok c l → σ.1 18 = nI (i + l.length) → i + l.length ≤ 2000 → l.length < n → S.1 + 130 * l.length < 2 ^ 30 → XSt c S σ → ∃ σ', F_xX7_countSteps_12 n (nI i) σ = some σ' ∧ fr1 [28, 29] [43, 44, 45, 48, 49] σ σ' ∧ XSt c (stL ph rn l i S) σ' := by
  intro n
  induction n with
  | zero => intro l i S σ _ _ _ _ _ h; omega
  | succ n ih =>
    intro l i S σ hX hT he h18 h2 h3 h4 hS
    rw [F_xX7_countSteps_12, h18]
    cases l with
    | nil =>
      have h2' : i ≤ 2000 := h2
      rw [if_pos (show nI (i + ([] : List (Nat × Nat × Nat)).length) ≤ nI i from nI_le (a := i) (b := i) (Nat.le_refl _) (by omega))]
      exact ⟨σ, rfl, fr1.rf, hS⟩
    | cons e l =>
      have hl : (e :: l).length = l.length + 1 := rfl
      rw [hl] at h18 h2 h3 h4 ⊢
      have h1 := he e List.mem_cons_self
      have hew : e.2.1 < 64 := by rcases h1.2.1 with h | h <;> omega
      rw [if_neg (nI_ge (by omega) (by omega)), if_neg (show ¬ (2000 : Int32) ≤ nI i from nI_ge (b := 2000) (by omega) (by omega)), if_pos (ib_nI (by omega) (by omega)), nI_clamp (by omega), hT.1, enc_n (by omega) hew h1.2.2, bd_is, enc_w (by omega) hew h1.2.2, bd_is]
      obtain ⟨σ1, a1, a2, a3⟩ := x_meet (i := i) hc hr h1.1 hX (by omega) hS
      rw [a1, bv_is, if_neg (show ¬ (40 : Int32) ≤ nI e.1 from nI_ge (a := e.1) (b := 40) (by omega) (by omega)), if_pos (ib_nI (by omega) (by omega)), nI_clamp (by omega)]
      have b3 := XSt_ao h1.1 a3
      have fr0 : fr1 [28, 29] [43, 44, 45, 48, 49] σ (sA σ1 43 (upd (σ1.2.1 43) e.1 (σ1.2.1 43 e.1 + 1))) := (a2.wk (by decide) (by decide) : fr1 [28, 29] [43, 44, 45, 48, 49] σ σ1).sA (by decide)
      have hle := evS_le (ph := ph) (i := i) (S := S) hr h1
      -- the rest of a step
      have step : ∀ (S2 : Sm) (σ2 : St), exS e.2.2 S2 = evS ph rn i e S → fr1 [28, 29] [43, 44, 45, 48, 49] σ σ2 → XSt c S2 σ2 → ∃ σ', F_xX7_countSteps_101 (F_xX7_countSteps_12 n) (nI i) (nI (encN e.1 e.2.1 e.2.2)) σ2 = some σ' ∧ fr1 [28, 29] [43, 44, 45, 48, 49] σ σ' ∧ XSt c (stL ph rn l (i + 1) (evS ph rn i e S)) σ' := by
        intro S2 σ2 hS2 hf2 hX2
        unfold F_xX7_countSteps_101
        rw [enc_e (by omega) hew h1.2.2, bd_is, enc_e (by omega) hew h1.2.2, bd_is, hX2.1, hX2.2.1, nI_add, nI_add, ← nI_succ]
        have hX3 : XSt c (exS e.2.2 S2) (sI (sI σ2 28 (nI (S2.1 + e.2.2))) 29 (nI (S2.2.1 + e.2.2))) := ⟨rfl, rfl, hX2.2.2.1, hX2.2.2.2⟩
        rw [hS2] at hX3
        have hf3 : fr1 [28, 29] [43, 44, 45, 48, 49] σ (sI (sI σ2 28 (nI (S2.1 + e.2.2))) 29 (nI (S2.2.1 + e.2.2))) := (hf2.sI (by decide)).sI (by decide)
        obtain ⟨σ', c1, c2, c3⟩ := ih l (i + 1) (evS ph rn i e S) _ (fun k hk => by rw [hf3.2 27 (by decide), hf3.2 28 (by decide)]; exact hX k hk) (by rw [hf3.2 38 (by decide)]; exact hT.2) (fun x hx => he x (List.mem_cons_of_mem _ hx)) (by rw [hf3.1 18 (by decide), h18]; congr 1; omega) (by omega) (by omega) (by omega) hX3
        exact ⟨σ', c1, hf3.tr c2, c3⟩
      unfold F_xX7_countSteps_75
      by_cases hw : e.2.1 = 63
      · rw [if_pos (show (40 : Int32) ≤ nI e.2.1 by rw [hw]; decide)]
        exact step _ _ (by unfold evS; rw [if_pos hw]) fr0 b3
      · have h6 := h1.2.1.resolve_left hw
        rw [if_neg (show ¬ (40 : Int32) ≤ nI e.2.1 from nI_ge (a := e.2.1) (b := 40) (by omega) (by omega))]
        have ht2 : (aoS e.1 (meetS (ph e.1) (rn e.1) e.1 i S)).1 < 2 ^ 30 := by
          show S.1 + wt (ph e.1) (rn e.1) S.1 + 1 < 2 ^ 30
          have h8 := wt_lt (p := ph e.1) (t := S.1) (hr e.1 h1.1).1
          have h9 := (hr e.1 h1.1).2
          omega
        obtain ⟨σ2, c1, c2, c3⟩ := x_meet (i := i) hc hr h6 (fun k hk => by rw [fr0.2 27 (by decide), fr0.2 28 (by decide)]; exact hX k hk) ht2 b3
        rw [c1, bv_is, if_pos (ib_nI (by omega) (by omega)), nI_clamp (by omega)]
        exact step _ _ (by unfold evS; rw [if_neg hw]) ((fr0.tr (c2.wk (by decide) (by decide))).sA (by decide)) (XSt_aw h6 c3)
theorem x_wr46 {c : Nat} (hc : c ≤ 40) {m val : Nat → Int32} (K : St → Option St) (hK : ∀ σ, F_xX7_write_55 1 (nI 40) σ = K σ) : ∀ (f k : Nat) (σ : St), k ≤ 40 → 40 < f + k → (∀ n, n < c → σ.2.1 39 n = m n) → (∀ n, n < c → σ.2.1 11 n = val n) → (∀ n, n < c → n < k → σ.2.1 46 n = m n ∧ σ.2.1 47 n = if m n = val n then 0 else 1) →
    ∃ σ1, F_xX7_write_55 f (nI k) σ = K σ1 ∧ fr1 [] [46, 47] σ σ1 ∧ ∀ n, n < c → σ1.2.1 46 n = m n ∧ σ1.2.1 47 n = if m n = val n then 0 else 1 := by
  intro f
  induction f with
  | zero => intro k σ h1 h2; omega
  | succ f ih =>
    intro k σ h1 h2 h39 h11 h46
    by_cases e : k = 40
    · refine ⟨σ, ?_, fr1.rf, fun n hn => h46 n hn (by omega)⟩
      rw [← hK, e, F_xX7_write_55, F_xX7_write_55, if_pos (show (40 : Int32) ≤ nI 40 by decide), if_pos (show (40 : Int32) ≤ nI 40 by decide)]
    · rw [F_xX7_write_55, if_neg (show ¬ (40 : Int32) ≤ nI k from nI_ge (a := k) (b := 40) (by omega) (by omega)), if_pos (ib_nI (by omega) (by omega)), nI_clamp (by omega), ← nI_succ]
      have go : ∀ v : Int32, (k < c → v = if m k = val k then 0 else 1) → ∃ σ1, F_xX7_write_55 f (nI (k + 1)) (sA (sA σ 46 (upd (σ.2.1 46) k (σ.2.1 39 k))) 47 (upd (σ.2.1 47) k v)) = K σ1 ∧ fr1 [] [46, 47] σ σ1 ∧ ∀ n, n < c → σ1.2.1 46 n = m n ∧ σ1.2.1 47 n = if m n = val n then 0 else 1 := by
        intro v hv
        obtain ⟨σ1, a1, a2, a3⟩ := ih (k + 1) (sA (sA σ 46 (upd (σ.2.1 46) k (σ.2.1 39 k))) 47 (upd (σ.2.1 47) k v)) (by omega) (by omega) h39 h11 (fun n hn hk => by
          show upd (σ.2.1 46) k (σ.2.1 39 k) n = m n ∧ upd (σ.2.1 47) k v n = _
          rw [u_is, u_is]
          by_cases e2 : n = k
          · subst e2
            rw [if_pos rfl, if_pos rfl]
            exact ⟨h39 n hn, hv hn⟩
          · rw [if_neg e2, if_neg e2]; exact h46 n hn (by omega))
        exact ⟨σ1, a1, ((fr1.rf.sA (by decide)).sA (by decide) : fr1 [] [46, 47] σ _).tr a2, a3⟩
      by_cases e3 : σ.2.1 39 k = σ.2.1 11 k
      · rw [if_pos e3]
        exact go 0 (fun hk => by rw [h39 k hk, h11 k hk] at e3; rw [if_pos e3])
      · rw [if_neg e3]
        exact go 1 (fun hk => by rw [h39 k hk, h11 k hk] at e3; rw [if_neg e3])
