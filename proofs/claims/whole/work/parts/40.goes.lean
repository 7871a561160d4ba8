/-! the reference's run: its counts and times in step with the machine -/
abbrev Sm : Type := Nat × Nat × (Nat → Nat) × (Nat → Nat) × (Nat → Nat) × (Nat → Int32) × (Nat → Int32)
def meetS (p r n i : Nat) (S : Sm) : Sm := (S.1 + wt p r S.1 + 1, S.2.1 + 1, S.2.2.1, S.2.2.2.1, vf_upd S.2.2.2.2.1 n (S.2.2.2.2.1 n + wt p r S.1), (if S.2.2.2.2.2.1 n = -1 then upd S.2.2.2.2.2.1 n (nI i) else S.2.2.2.2.2.1), upd S.2.2.2.2.2.2 n (nI i))
def aoS (n : Nat) (S : Sm) : Sm := (S.1, S.2.1, vf_upd S.2.2.1 n (S.2.2.1 n + 1), S.2.2.2)
def awS (n : Nat) (S : Sm) : Sm := (S.1, S.2.1, S.2.2.1, vf_upd S.2.2.2.1 n (S.2.2.2.1 n + 1), S.2.2.2.2)
def exS (e : Nat) (S : Sm) : Sm := (S.1 + e, S.2.1 + e, S.2.2)
def evS (ph rn : Nat → Nat) (i : Nat) (e : Nat × Nat × Nat) (S : Sm) : Sm := exS e.2.2 (if e.2.1 = 63 then aoS e.1 (meetS (ph e.1) (rn e.1) e.1 i S) else awS e.2.1 (meetS (ph e.2.1) (rn e.2.1) e.2.1 i (aoS e.1 (meetS (ph e.1) (rn e.1) e.1 i S))))
def stL (ph rn : Nat → Nat) : List (Nat × Nat × Nat) → Nat → Sm → Sm
  | [], _, S => S
  | e :: l, i, S => stL ph rn l (i + 1) (evS ph rn i e S)
def S0 : Sm := (0, 0, fun _ => 0, fun _ => 0, fun _ => 0, fun _ => -1, fun _ => -1)
theorem evS_t (ph rn : Nat → Nat) (i : Nat) (e : Nat × Nat × Nat) (S : Sm) : (evS ph rn i e S).1 = (if e.2.1 = 63 then S.1 + wt (ph e.1) (rn e.1) S.1 + 1 else S.1 + wt (ph e.1) (rn e.1) S.1 + 1 + wt (ph e.2.1) (rn e.2.1) (S.1 + wt (ph e.1) (rn e.1) S.1 + 1) + 1) + e.2.2 := by
  unfold evS
  by_cases h : e.2.1 = 63
  · rw [if_pos h, if_pos h]; rfl
  · rw [if_neg h, if_neg h]; rfl
theorem stL_t (ph rn : Nat → Nat) : ∀ (l : List (Nat × Nat × Nat)) (i : Nat) (S : Sm), (stL ph rn l i S).1 = tmL ph rn l S.1 := by
  intro l
  induction l with
  | nil => intro i S; rfl
  | cons e l ih =>
    intro i S
    show (stL ph rn l (i + 1) (evS ph rn i e S)).1 = tmL ph rn l _
    rw [ih, evS_t]
def MS (c : Nat) (S : Sm) (τ : St) : Prop := τ.1 21 = nI S.1 ∧ τ.1 22 = nI S.2.1 ∧ ∀ n, n < c → τ.2.1 16 n = nI (S.2.2.1 n) ∧ τ.2.1 17 n = nI (S.2.2.2.1 n) ∧ τ.2.1 18 n = nI (S.2.2.2.2.1 n) ∧ τ.2.1 19 n = S.2.2.2.2.2.1 n ∧ τ.2.1 20 n = S.2.2.2.2.2.2 n
def MC (c : Nat) (m : Ms) (τ : St) : Prop := (∀ n, n < c → τ.2.1 14 n = m.1 n) ∧ τ.1 18 = m.2.1 ∧ τ.1 19 = nI m.2.2.1 ∧ τ.1 20 = nI m.2.2.2.1 ∧ ∀ j, j < 100 → j < m.2.2.2.1 → τ.2.1 15 j = m.2.2.2.2 j
/-- what the reference's run leaves as it is -/
def MX (w t : Nat) (rd pl : Nat → Nat) (c : Nat) (sp : Nat → Nat) (τ : St) : Prop := MD w t rd pl τ ∧ τ.1 12 = nI c ∧ ∀ n, n < c → τ.2.1 7 n = nI (sp n)
theorem MX.fr {w t : Nat} {rd pl : Nat → Nat} {c : Nat} {sp : Nat → Nat} {τ τ' : St} {S Q : List Nat} (h : MX w t rd pl c sp τ) (hf : fr1 S Q τ τ') (h1 : 8 ∉ S) (h2 : 9 ∉ S) (h3 : 12 ∉ S) (h4 : 2 ∉ Q) (h5 : 3 ∉ Q) (h6 : 7 ∉ Q) : MX w t rd pl c sp τ' :=
  ⟨⟨(hf.1 8 h1).trans h.1.1, (hf.1 9 h2).trans h.1.2.1, fun k hk => by rw [hf.2 2 h4, hf.2 3 h5]; exact h.1.2.2 k hk⟩, (hf.1 12 h3).trans h.2.1, fun n hn => by rw [hf.2 7 h6]; exact h.2.2 n hn⟩
theorem mx_wait {w t : Nat} {rd pl : Nat → Nat} (hd : DOK w t rd pl) {c : Nat} {sp : Nat → Nat} (hs : ∀ n, n < c → there w t pl (sp n)) (hc : c ≤ 40) {τ : St} (h : MX w t rd pl c sp τ) {n u : Nat} (hn : n < c) (hu : u < 2 ^ 30) : F_mX11_waitFor (nI n) (nI u) τ = some (nI (wt (phF w sp n) (rnF w rd sp n) u), τ) := by
  obtain ⟨h1, h2⟩ := there_lt hd (hs n hn)
  have h3 := hd.2.2.2.2 _ h2
  have h4 := hd.1
  have h5 := hd.2.1
  have h6 := hd.2.2.2.1
  exact m_wait (by omega) h.1.1 (by omega) h5 (h.2.2 n hn) h1 (by omega) (h.1.2.2 _ h2).1 h3.1 (by show rd (sp n / w) ≤ 32; omega) hu
theorem m_ord {τ : St} {c : Nat} (h12 : τ.1 12 = nI c) (hc : c ≤ 40) (v : Int32) : F_mX11_isWrong v τ = some (if wrg c v = true then 1 else 0, τ) := by
  unfold F_mX11_isWrong
  by_cases h0 : v < 0
  · rw [if_pos h0, if_pos (by unfold wrg; simp [h0])]
  rw [if_neg h0, h12]
  obtain ⟨x, hx, rfl⟩ := nI_of h0
  obtain ⟨e1, e2, e3⟩ := ord_div hx
  have o1 : opN (nI x) = x / 10000 := by unfold opN; rw [nI_clamp hx]
  have o2 : wdN (nI x) = x / 100 % 100 := by unfold wdN; rw [nI_clamp hx]
  have o3 : nxN (nI x) = x % 100 := by unfold nxN; rw [nI_clamp hx]
  rw [e1, e2, e3]
  by_cases h1 : 9 < x / 10000
  · rw [if_pos (show (9 : Int32) < nI (x / 10000) from nI_lt (a := 9) h1 (by omega)), if_pos (by unfold wrg; simp [o1, h1])]
  rw [if_neg (show ¬ (9 : Int32) < nI (x / 10000) from nI_nlt (a := 9) (b := x / 10000) (by omega) (by omega))]
  by_cases h2 : c ≤ x / 100 % 100
  · rw [if_pos (nI_le h2 (by omega)), if_pos (by unfold wrg; simp [o2, h2])]
  rw [if_neg (nI_ge (by omega) (by omega))]
  by_cases h3 : c ≤ x % 100
  · rw [if_neg (nI_nlt h3 (by omega)), if_pos (by unfold wrg; simp [o3, h3])]
  rw [if_pos (nI_lt (by omega) (by omega)), if_neg]
  unfold wrg
  simp only [Bool.or_eq_true, decide_eq_true_eq, not_or]
  exact ⟨⟨⟨h0, by omega⟩, by omega⟩, by omega⟩
theorem m_reads {o : Nat} (ho : o ≤ 9) (τ : St) : F_mX11_reads (nI o) τ = some (if 1 ≤ o ∧ o ≤ 5 then 1 else 0, τ) := by
  unfold F_mX11_reads
  rw [in_is, bd_is]
  by_cases h : 1 ≤ o ∧ o ≤ 5
  · have hn : ¬ (nI o < 1 ∨ 5 < nI o) := by
      intro z
      rcases z with z | z
      · exact nI_nlt (a := o) (b := 1) (by omega) (by omega) z
      · exact nI_nlt (a := 5) (b := o) (by omega) (by omega) z
    rw [if_pos h, if_neg hn]
    rfl
  · have hn : (nI o < 1 ∨ 5 < nI o) := by
      by_cases h1 : o < 1
      · exact Or.inl (nI_lt (b := 1) h1 (by omega))
      · exact Or.inr (nI_lt (a := 5) (b := o) (by omega) (by omega))
    rw [if_neg h, if_pos hn]
    rfl
theorem m_meet16 {c : Nat} {τ : St} {S : Sm} {a i p r : Nat} (hc : c ≤ 40) (ha : a < c) (h : MS c S τ) : ∃ τ', F_mX11_live (nI a) (nI i) (sA (sA (sI (sI τ 21 (nI S.1 + (nI (wt p r S.1) + 1))) 22 (nI S.2.1 + 1)) 16 (upd (τ.2.1 16) a (τ.2.1 16 a + 1))) 18 (upd (τ.2.1 18) a (τ.2.1 18 a + nI (wt p r S.1)))) = some τ' ∧ fr1 [21, 22] [16, 18, 19, 20] τ τ' ∧ MS c (aoS a (meetS p r a i S)) τ' := by
  unfold F_mX11_live
  rw [if_pos (ib_nI (by omega) (by omega)), nI_clamp (by omega)]
  have h19 : τ.2.1 19 a = S.2.2.2.2.2.1 a := (h.2.2 a ha).2.2.2.1
  have hm : ∀ f : Nat → Int32, (∀ n, n < c → f n = (if S.2.2.2.2.2.1 a = -1 then upd S.2.2.2.2.2.1 a (nI i) else S.2.2.2.2.2.1) n) → ∀ τ' : St, τ'.1 21 = nI S.1 + (nI (wt p r S.1) + 1) → τ'.1 22 = nI S.2.1 + 1 → τ'.2.1 16 = upd (τ.2.1 16) a (τ.2.1 16 a + 1) → τ'.2.1 17 = τ.2.1 17 → τ'.2.1 18 = upd (τ.2.1 18) a (τ.2.1 18 a + nI (wt p r S.1)) → τ'.2.1 19 = f → τ'.2.1 20 = upd (τ.2.1 20) a (nI i) → MS c (aoS a (meetS p r a i S)) τ' := by
    intro f hf τ' e21 e22 eK eJ e18 e19 e20
    refine ⟨?_, ?_, fun n hn => ?_⟩
    · rw [e21, nI_1, nI_add]; rfl
    · rw [e22, nI_1]; rfl
    · have hn' := h.2.2 n hn
      rw [eK, eJ, e18, e19, e20]
      refine ⟨?_, ?_, ?_, hf n hn, ?_⟩
      · show upd (τ.2.1 16) a (τ.2.1 16 a + 1) n = nI (vf_upd S.2.2.1 a (S.2.2.1 a + 1) n)
        rw [u_is]
        unfold vf_upd
        by_cases e : n = a
        · rw [if_pos e, if_pos e, (h.2.2 a ha).1, nI_1]
        · rw [if_neg e, if_neg e]; exact hn'.1
      · exact hn'.2.1
      · show upd (τ.2.1 18) a (τ.2.1 18 a + nI (wt p r S.1)) n = nI (vf_upd S.2.2.2.2.1 a (S.2.2.2.2.1 a + wt p r S.1) n)
        rw [u_is]
        unfold vf_upd
        by_cases e : n = a
        · rw [if_pos e, if_pos e, (h.2.2 a ha).2.2.1, nI_add]
        · rw [if_neg e, if_neg e]; exact hn'.2.2.1
      · show upd (τ.2.1 20) a (nI i) n = upd S.2.2.2.2.2.2 a (nI i) n
        rw [u_is, u_is, hn'.2.2.2.2]
  by_cases h1 : S.2.2.2.2.2.1 a = -1
  · rw [if_pos (show (sA (sA (sI (sI τ 21 (nI S.1 + (nI (wt p r S.1) + 1))) 22 (nI S.2.1 + 1)) 16 (upd (τ.2.1 16) a (τ.2.1 16 a + 1))) 18 (upd (τ.2.1 18) a (τ.2.1 18 a + nI (wt p r S.1)))).2.1 19 a = -1 from h19.trans h1)]
    refine ⟨_, rfl, (((((fr1.rf.sI (by decide)).sI (by decide)).sA (by decide)).sA (by decide)).sA (by decide)).sA (by decide), hm (upd (τ.2.1 19) a (nI i)) (fun n hn => ?_) _ rfl rfl rfl rfl rfl rfl rfl⟩
    rw [if_pos h1, u_is, u_is, (h.2.2 n hn).2.2.2.1]
  · rw [if_neg (show ¬ (sA (sA (sI (sI τ 21 (nI S.1 + (nI (wt p r S.1) + 1))) 22 (nI S.2.1 + 1)) 16 (upd (τ.2.1 16) a (τ.2.1 16 a + 1))) 18 (upd (τ.2.1 18) a (τ.2.1 18 a + nI (wt p r S.1)))).2.1 19 a = -1 from fun z => h1 (h19.symm.trans z))]
    refine ⟨_, rfl, ((((fr1.rf.sI (by decide)).sI (by decide)).sA (by decide)).sA (by decide)).sA (by decide), hm (τ.2.1 19) (fun n hn => ?_) _ rfl rfl rfl rfl rfl rfl rfl⟩
    rw [if_neg h1]
    exact (h.2.2 n hn).2.2.2.1
theorem m_meet17 {c : Nat} {τ : St} {S : Sm} {a i p r : Nat} (hc : c ≤ 40) (ha : a < c) (h : MS c S τ) : ∃ τ', F_mX11_live (nI a) (nI i) (sA (sA (sI (sI τ 21 (nI S.1 + (nI (wt p r S.1) + 1))) 22 (nI S.2.1 + 1)) 17 (upd (τ.2.1 17) a (τ.2.1 17 a + 1))) 18 (upd (τ.2.1 18) a (τ.2.1 18 a + nI (wt p r S.1)))) = some τ' ∧ fr1 [21, 22] [17, 18, 19, 20] τ τ' ∧ MS c (awS a (meetS p r a i S)) τ' := by
  unfold F_mX11_live
  rw [if_pos (ib_nI (by omega) (by omega)), nI_clamp (by omega)]
  have h19 : τ.2.1 19 a = S.2.2.2.2.2.1 a := (h.2.2 a ha).2.2.2.1
  have hm : ∀ f : Nat → Int32, (∀ n, n < c → f n = (if S.2.2.2.2.2.1 a = -1 then upd S.2.2.2.2.2.1 a (nI i) else S.2.2.2.2.2.1) n) → ∀ τ' : St, τ'.1 21 = nI S.1 + (nI (wt p r S.1) + 1) → τ'.1 22 = nI S.2.1 + 1 → τ'.2.1 17 = upd (τ.2.1 17) a (τ.2.1 17 a + 1) → τ'.2.1 16 = τ.2.1 16 → τ'.2.1 18 = upd (τ.2.1 18) a (τ.2.1 18 a + nI (wt p r S.1)) → τ'.2.1 19 = f → τ'.2.1 20 = upd (τ.2.1 20) a (nI i) → MS c (awS a (meetS p r a i S)) τ' := by
    intro f hf τ' e21 e22 eK eJ e18 e19 e20
    refine ⟨?_, ?_, fun n hn => ?_⟩
    · rw [e21, nI_1, nI_add]; rfl
    · rw [e22, nI_1]; rfl
    · have hn' := h.2.2 n hn
      rw [eK, eJ, e18, e19, e20]
      refine ⟨?_, ?_, ?_, hf n hn, ?_⟩
      · exact hn'.1
      · show upd (τ.2.1 17) a (τ.2.1 17 a + 1) n = nI (vf_upd S.2.2.2.1 a (S.2.2.2.1 a + 1) n)
        rw [u_is]
        unfold vf_upd
        by_cases e : n = a
        · rw [if_pos e, if_pos e, (h.2.2 a ha).2.1, nI_1]
        · rw [if_neg e, if_neg e]; exact hn'.2.1
      · show upd (τ.2.1 18) a (τ.2.1 18 a + nI (wt p r S.1)) n = nI (vf_upd S.2.2.2.2.1 a (S.2.2.2.2.1 a + wt p r S.1) n)
        rw [u_is]
        unfold vf_upd
        by_cases e : n = a
        · rw [if_pos e, if_pos e, (h.2.2 a ha).2.2.1, nI_add]
        · rw [if_neg e, if_neg e]; exact hn'.2.2.1
      · show upd (τ.2.1 20) a (nI i) n = upd S.2.2.2.2.2.2 a (nI i) n
        rw [u_is, u_is, hn'.2.2.2.2]
  by_cases h1 : S.2.2.2.2.2.1 a = -1
  · rw [if_pos (show (sA (sA (sI (sI τ 21 (nI S.1 + (nI (wt p r S.1) + 1))) 22 (nI S.2.1 + 1)) 17 (upd (τ.2.1 17) a (τ.2.1 17 a + 1))) 18 (upd (τ.2.1 18) a (τ.2.1 18 a + nI (wt p r S.1)))).2.1 19 a = -1 from h19.trans h1)]
    refine ⟨_, rfl, (((((fr1.rf.sI (by decide)).sI (by decide)).sA (by decide)).sA (by decide)).sA (by decide)).sA (by decide), hm (upd (τ.2.1 19) a (nI i)) (fun n hn => ?_) _ rfl rfl rfl rfl rfl rfl rfl⟩
    rw [if_pos h1, u_is, u_is, (h.2.2 n hn).2.2.2.1]
  · rw [if_neg (show ¬ (sA (sA (sI (sI τ 21 (nI S.1 + (nI (wt p r S.1) + 1))) 22 (nI S.2.1 + 1)) 17 (upd (τ.2.1 17) a (τ.2.1 17 a + 1))) 18 (upd (τ.2.1 18) a (τ.2.1 18 a + nI (wt p r S.1)))).2.1 19 a = -1 from fun z => h1 (h19.symm.trans z))]
    refine ⟨_, rfl, ((((fr1.rf.sI (by decide)).sI (by decide)).sA (by decide)).sA (by decide)).sA (by decide), hm (τ.2.1 19) (fun n hn => ?_) _ rfl rfl rfl rfl rfl rfl rfl⟩
    rw [if_neg h1]
    exact (h.2.2 n hn).2.2.2.1
theorem m_340 {b : St → Option St} {x3 x5 : Int32} {wd : Nat} {τ : St} (hw : wd < 40) : ∀ (n k : Nat), k ≤ 32 → 32 < n + k → F_mX11_goes_340 b n x3 (nI wd) x5 (nI (2 + fb_ct (fun j => (τ.2.1 14 wd).toBitVec.toNat.testBit j) k)) (nI k) τ = F_mX11_goes_370 b x3 (nI wd) x5 (nI (2 + pop (τ.2.1 14 wd))) τ := by
  intro n
  induction n with
  | zero => intro k h1 h2; omega
  | succ n ih =>
    intro k h1 h2
    unfold F_mX11_goes_340
    by_cases e : k = 32
    · subst e
      rw [if_pos (show (32 : Int32) ≤ nI 32 from nI_le (a := 32) (Nat.le_refl _) (by omega))]
      rfl
    · rw [if_neg (show ¬ (32 : Int32) ≤ nI k from nI_ge (b := 32) (by omega) (by omega)), if_pos (ib_nI hw (by omega)), nI_clamp (by omega), and_lo (by omega), nI_add, nI_1]
      have := ih (k + 1) (by omega) (by omega)
      rw [fb_ct_succ, ← Nat.add_assoc] at this
      exact this
theorem MS_ex {c e : Nat} {S : Sm} {τ τ' : St} (h : MS c S τ) (h21 : τ'.1 21 = τ.1 21 + nI e) (h22 : τ'.1 22 = τ.1 22 + nI e) (h2 : τ'.2.1 16 = τ.2.1 16 ∧ τ'.2.1 17 = τ.2.1 17 ∧ τ'.2.1 18 = τ.2.1 18 ∧ τ'.2.1 19 = τ.2.1 19 ∧ τ'.2.1 20 = τ.2.1 20) : MS c (exS e S) τ' := by
  refine ⟨?_, ?_, fun n hn => ?_⟩
  · rw [h21, h.1, nI_add]; rfl
  · rw [h22, h.2.1, nI_add]; rfl
  · rw [h2.1, h2.2.1, h2.2.2.1, h2.2.2.2.1, h2.2.2.2.2]
    exact h.2.2 n hn
theorem m_370 {c i : Nat} {τ : St} {m : Ms} {S : Sm} {e : Nat} (hc : c ≤ 40) (hi : i < 2000) (hpc : m.2.2.2.1 ≤ i) (hw : ¬ wrg c (mv m) = true) (hm : MC c m τ) (hS : MS c S τ) (b : St → Option St) :
    ∃ τ', F_mX11_goes_370 b (nI (opN (mv m))) (nI (wdN (mv m))) (nI (nxN (mv m))) (nI e) τ = (if opN (mv m) = 0 then some τ' else b τ') ∧ fr1 [17, 18, 19, 20, 21, 22] [14, 15] τ τ' ∧ MS c (exS e S) τ' ∧ (opN (mv m) ≠ 0 → τ'.1 17 = τ.1 17 ∧ MC c (nxt m) τ') ∧ (opN (mv m) = 0 → τ'.1 17 = 0 ∧ MC c m τ') := by
  obtain ⟨w0, w1, w2, w3⟩ := wrg_f hw
  have nib : ib (nI (wdN (mv m))) 40 = true := ib_nI (by omega) (by omega)
  have ncl : (nI (wdN (mv m))).toNatClampNeg = wdN (mv m) := nI_clamp (by omega)
  have h14 : τ.2.1 14 (wdN (mv m)) = m.1 (wdN (mv m)) := hm.1 _ w2
  unfold F_mX11_goes_370 F_mX11_goes_589
  unfold nxt nxA nxat
  rcases (show opN (mv m) = 0 ∨ opN (mv m) = 1 ∨ opN (mv m) = 2 ∨ opN (mv m) = 3 ∨ opN (mv m) = 4 ∨ opN (mv m) = 5 ∨ opN (mv m) = 6 ∨ opN (mv m) = 7 ∨ opN (mv m) = 8 ∨ opN (mv m) = 9 by omega) with ho | ho | ho | ho | ho | ho | ho | ho | ho | ho
  · simp (decide := true) only [ho, show nI 0 = (0 : Int32) from rfl, if_true, if_false, ite_true, ite_false]
    exact ⟨_, rfl, ((fr1.rf.sI (by decide)).sI (by decide)).sI (by decide), MS_ex hS rfl rfl ⟨rfl, rfl, rfl, rfl, rfl⟩, fun h => False.elim h, fun _ => ⟨rfl, hm⟩⟩
  · simp (decide := true) only [ho, show nI 1 = (1 : Int32) from rfl, nib, ncl, h14, hm.2.1, if_true, if_false, ite_true, ite_false]
    exact ⟨_, rfl, (((fr1.rf.sI (by decide)).sI (by decide)).sI (by decide)).sI (by decide), MS_ex hS rfl rfl ⟨rfl, rfl, rfl, rfl, rfl⟩, fun _ => ⟨rfl, hm.1, rfl, rfl, hm.2.2.2.1, hm.2.2.2.2⟩, fun h => False.elim h⟩
  · simp (decide := true) only [ho, show nI 2 = (2 : Int32) from rfl, nib, ncl, h14, hm.2.1, if_true, if_false, ite_true, ite_false]
    exact ⟨_, rfl, (((fr1.rf.sI (by decide)).sI (by decide)).sI (by decide)).sI (by decide), MS_ex hS rfl rfl ⟨rfl, rfl, rfl, rfl, rfl⟩, fun _ => ⟨rfl, hm.1, rfl, rfl, hm.2.2.2.1, hm.2.2.2.2⟩, fun h => False.elim h⟩
  · simp (decide := true) only [ho, show nI 3 = (3 : Int32) from rfl, nib, ncl, h14, hm.2.1, if_true, if_false, ite_true, ite_false]
    exact ⟨_, rfl, (((fr1.rf.sI (by decide)).sI (by decide)).sI (by decide)).sI (by decide), MS_ex hS rfl rfl ⟨rfl, rfl, rfl, rfl, rfl⟩, fun _ => ⟨rfl, hm.1, rfl, rfl, hm.2.2.2.1, hm.2.2.2.2⟩, fun h => False.elim h⟩
  · simp (decide := true) only [ho, show nI 4 = (4 : Int32) from rfl, nib, ncl, h14, hm.2.1, if_true, if_false, ite_true, ite_false]
    exact ⟨_, rfl, (((fr1.rf.sI (by decide)).sI (by decide)).sI (by decide)).sI (by decide), MS_ex hS rfl rfl ⟨rfl, rfl, rfl, rfl, rfl⟩, fun _ => ⟨rfl, hm.1, rfl, rfl, hm.2.2.2.1, hm.2.2.2.2⟩, fun h => False.elim h⟩
  · simp (decide := true) only [ho, show nI 5 = (5 : Int32) from rfl, nib, ncl, h14, hm.2.1, if_true, if_false, ite_true, ite_false]
    refine ⟨_, rfl, (((fr1.rf.sI (by decide)).sI (by decide)).sI (by decide)).sA (by decide), MS_ex hS rfl rfl ⟨rfl, rfl, rfl, rfl, rfl⟩, fun _ => ⟨rfl, fun n hn => ?_, hm.2.1, rfl, hm.2.2.2.1, hm.2.2.2.2⟩, fun h => False.elim h⟩
    show upd (τ.2.1 14) (wdN (mv m)) m.2.1 n = upd m.1 (wdN (mv m)) m.2.1 n
    rw [u_is, u_is, hm.1 n hn]
  · by_cases ha : m.2.1 < 0
    · have ha2 : ¬ 0 ≤ m.2.1 := by rw [i_lt] at ha; rw [i_le]; omega
      simp (decide := true) only [ho, ha, ha2, show nI 6 = (6 : Int32) from rfl, nib, ncl, h14, hm.2.1, if_true, if_false, ite_true, ite_false]
      exact ⟨_, rfl, ((fr1.rf.sI (by decide)).sI (by decide)).sI (by decide), MS_ex hS rfl rfl ⟨rfl, rfl, rfl, rfl, rfl⟩, fun _ => ⟨rfl, hm.1, hm.2.1, rfl, hm.2.2.2.1, hm.2.2.2.2⟩, fun h => False.elim h⟩
    · have ha2 : 0 ≤ m.2.1 := by rw [i_lt] at ha; rw [i_le]; omega
      simp (decide := true) only [ho, ha, ha2, show nI 6 = (6 : Int32) from rfl, nib, ncl, h14, hm.2.1, if_true, if_false, ite_true, ite_false]
      exact ⟨_, rfl, ((fr1.rf.sI (by decide)).sI (by decide)).sI (by decide), MS_ex hS rfl rfl ⟨rfl, rfl, rfl, rfl, rfl⟩, fun _ => ⟨rfl, hm.1, hm.2.1, rfl, hm.2.2.2.1, hm.2.2.2.2⟩, fun h => False.elim h⟩
  · by_cases ha : m.2.1 = 0
    · simp (decide := true) only [ho, ha, show nI 7 = (7 : Int32) from rfl, nib, ncl, h14, hm.2.1, if_true, if_false, ite_true, ite_false]
      exact ⟨_, rfl, ((fr1.rf.sI (by decide)).sI (by decide)).sI (by decide), MS_ex hS rfl rfl ⟨rfl, rfl, rfl, rfl, rfl⟩, fun _ => ⟨rfl, hm.1, hm.2.1.trans ha, rfl, hm.2.2.2.1, hm.2.2.2.2⟩, fun h => False.elim h⟩
    · simp (decide := true) only [ho, ha, show nI 7 = (7 : Int32) from rfl, nib, ncl, h14, hm.2.1, if_true, if_false, ite_true, ite_false]
      exact ⟨_, rfl, ((fr1.rf.sI (by decide)).sI (by decide)).sI (by decide), MS_ex hS rfl rfl ⟨rfl, rfl, rfl, rfl, rfl⟩, fun _ => ⟨rfl, hm.1, hm.2.1, rfl, hm.2.2.2.1, hm.2.2.2.2⟩, fun h => False.elim h⟩
  · by_cases ha : m.2.2.2.1 < 100
    · simp (decide := true) only [ho, ha, show nI 8 = (8 : Int32) from rfl, nib, ncl, h14, hm.2.1, hm.2.2.2.1, show ¬ (100 : Int32) ≤ nI m.2.2.2.1 from nI_ge (b := 100) ha (by omega), ib_nI ha (show 100 < 2 ^ 31 by omega), nI_clamp (show m.2.2.2.1 < 2 ^ 31 by omega), if_true, if_false, ite_true, ite_false, and_self]
      refine ⟨_, rfl, ((((fr1.rf.sI (by decide)).sI (by decide)).sA (by decide)).sI (by decide)).sI (by decide), MS_ex hS rfl rfl ⟨rfl, rfl, rfl, rfl, rfl⟩, fun _ => ⟨rfl, hm.1, hm.2.1, rfl, ?_, fun j hj hj2 => ?_⟩, fun h => False.elim h⟩
      · show τ.1 20 + 1 = nI (m.2.2.2.1 + 1)
        rw [hm.2.2.2.1, nI_1]
      · show upd (τ.2.1 15) m.2.2.2.1 m.2.1 j = upd m.2.2.2.2 m.2.2.2.1 m.2.1 j
        rw [u_is, u_is]
        by_cases e : j = m.2.2.2.1
        · rw [if_pos e, if_pos e]
        · rw [if_neg e, if_neg e]
          exact hm.2.2.2.2 j hj (by have hj3 : j < m.2.2.2.1 + 1 := hj2; omega)
    · simp (decide := true) only [ho, ha, show nI 8 = (8 : Int32) from rfl, nib, ncl, h14, hm.2.1, hm.2.2.2.1, show (100 : Int32) ≤ nI m.2.2.2.1 from nI_le (a := 100) (by omega) (by omega), if_true, if_false, ite_true, ite_false, and_false, and_true]
      refine ⟨_, rfl, (((fr1.rf.sI (by decide)).sI (by decide)).sI (by decide)).sI (by decide), MS_ex hS rfl rfl ⟨rfl, rfl, rfl, rfl, rfl⟩, fun _ => ⟨rfl, hm.1, hm.2.1, rfl, ?_, fun j hj hj2 => ?_⟩, fun h => False.elim h⟩
      · show τ.1 20 + 1 = nI (m.2.2.2.1 + 1)
        rw [hm.2.2.2.1, nI_1]
      · exact hm.2.2.2.2 j hj (by omega)
  · simp (decide := true) only [ho, show nI 9 = (9 : Int32) from rfl, nib, ncl, h14, hm.2.1, if_true, if_false, ite_true, ite_false]
    exact ⟨_, rfl, (((fr1.rf.sI (by decide)).sI (by decide)).sI (by decide)).sI (by decide), MS_ex hS rfl rfl ⟨rfl, rfl, rfl, rfl, rfl⟩, fun _ => ⟨rfl, hm.1, rfl, rfl, hm.2.2.2.1, hm.2.2.2.2⟩, fun h => False.elim h⟩
theorem m_316 {c i : Nat} {τ : St} {m : Ms} {S : Sm} (hc : c ≤ 40) (hi : i < 2000) (hpc : m.2.2.2.1 ≤ i) (hw : ¬ wrg c (mv m) = true) (hm : MC c m τ) (hS : MS c S τ) (b : St → Option St) :
    ∃ τ', F_mX11_goes_316 b (nI (opN (mv m))) (nI (wdN (mv m))) (nI (nxN (mv m))) τ = (if opN (mv m) = 0 then some τ' else b τ') ∧ fr1 [17, 18, 19, 20, 21, 22] [14, 15] τ τ' ∧ MS c (exS (evx c m) S) τ' ∧ (opN (mv m) ≠ 0 → τ'.1 17 = τ.1 17 ∧ MC c (nxt m) τ') ∧ (opN (mv m) = 0 → τ'.1 17 = 0 ∧ MC c m τ') := by
  obtain ⟨w0, w1, w2, w3⟩ := wrg_f hw
  have h14 : τ.2.1 14 (wdN (mv m)) = m.1 (wdN (mv m)) := hm.1 _ w2
  have e2 : evx c m = if opN (mv m) = 4 then 2 + pop (m.1 (wdN (mv m))) else if opN (mv m) = 8 then 3 else 0 := by unfold evx; rw [if_neg hw]
  have h := m_370 (e := evx c m) hc hi hpc hw hm hS b
  have h327 : ∀ y : Int32, (opN (mv m) ≠ 4 → y = nI (evx c m)) → F_mX11_goes_327 b (nI (opN (mv m))) (nI (wdN (mv m))) (nI (nxN (mv m))) y τ = F_mX11_goes_370 b (nI (opN (mv m))) (nI (wdN (mv m))) (nI (nxN (mv m))) (nI (evx c m)) τ := by
    intro y hy
    unfold F_mX11_goes_327
    by_cases h4 : opN (mv m) = 4
    · rw [if_pos (show nI (opN (mv m)) = 4 by rw [h4]; rfl)]
      have := m_340 (b := b) (x3 := nI (opN (mv m))) (x5 := nI (nxN (mv m))) (wd := wdN (mv m)) (τ := τ) (by omega) FU 0 (by omega) (by rw [FU_is]; omega)
      rw [h14] at this
      rw [e2, if_pos h4, ← this]
      rfl
    · rw [if_neg (show ¬ nI (opN (mv m)) = 4 from fun z => h4 ((nI_eq (b := 4) (by omega) (by omega)).mp z)), hy h4]
  have h316 : F_mX11_goes_316 b (nI (opN (mv m))) (nI (wdN (mv m))) (nI (nxN (mv m))) τ = F_mX11_goes_370 b (nI (opN (mv m))) (nI (wdN (mv m))) (nI (nxN (mv m))) (nI (evx c m)) τ := by
    unfold F_mX11_goes_316
    by_cases h8 : opN (mv m) = 8
    · rw [if_pos (show nI (opN (mv m)) = 8 by rw [h8]; rfl), h327 3 (fun _ => by rw [e2, if_neg (by omega), if_pos h8]; rfl)]
    · rw [if_neg (show ¬ nI (opN (mv m)) = 8 from fun z => h8 ((nI_eq (b := 8) (by omega) (by omega)).mp z)), h327 0 (fun h4 => by rw [e2, if_neg h4, if_neg h8]; rfl)]
  rw [h316]
  exact h
theorem m_step {w t : Nat} {rd pl : Nat → Nat} (hd : DOK w t rd pl) {c : Nat} {sp : Nat → Nat} (hs : ∀ n, n < c → there w t pl (sp n)) {n i : Nat} {τ : St} {m : Ms} {S : Sm} (hc : c ≤ 40) (hX : MX w t rd pl c sp τ) (hm : MC c m τ) (hS : MS c S τ) (hat : m.2.2.1 < c) (hpc : m.2.2.2.1 ≤ i) (h16 : τ.1 16 = nI i) (hi : i < 2000) (ht : S.1 ≤ 130 * i) {g : St → Option St} (hg : F_mX11_goes_101 n = g) :
    ∃ τ', F_mX11_goes_101 (n + 1) τ = (if fin c m = 2 then g τ' else some τ') ∧ fr1 [16, 17, 18, 19, 20, 21, 22] [14, 15, 16, 17, 18, 19, 20] τ τ' ∧ τ'.1 16 = nI (i + 1) ∧ MS c (evS (phF w sp) (rnF w rd sp) i (m.2.2.1, evw c m, evx c m) S) τ' ∧
      (fin c m = 2 → τ'.1 17 = τ.1 17 ∧ MC c (nxt m) τ') ∧ (fin c m ≠ 2 → τ'.1 17 = nI (fin c m) ∧ MC c m τ') := by
  have hv : τ.2.1 14 m.2.2.1 = mv m := hm.1 _ hat
  have hr := rn_ok hd hs m.2.2.1 hat
  have hwl := wt_lt (p := phF w sp m.2.2.1) (t := S.1) hr.1
  obtain ⟨τ1, a1, a2, a3⟩ := m_meet16 (p := phF w sp m.2.2.1) (r := rnF w rd sp m.2.2.1) (i := i) hc hat hS
  have b16 : τ1.1 16 = nI i := (a2.1 16 (by decide)).trans h16
  have hMC1 : MC c m (sI τ1 16 (nI (i + 1))) := ⟨fun n hn => (congrFun (a2.2 14 (by decide)) n).trans (hm.1 n hn), (a2.1 18 (by decide)).trans hm.2.1, (a2.1 19 (by decide)).trans hm.2.2.1, (a2.1 20 (by decide)).trans hm.2.2.2.1, fun j h1 h2 => (congrFun (a2.2 15 (by decide)) j).trans (hm.2.2.2.2 j h1 h2)⟩
  have hMS1 : MS c (aoS m.2.2.1 (meetS (phF w sp m.2.2.1) (rnF w rd sp m.2.2.1) m.2.2.1 i S)) (sI τ1 16 (nI (i + 1))) := a3
  have fr1' : fr1 [16, 17, 18, 19, 20, 21, 22] [14, 15, 16, 17, 18, 19, 20] τ (sI τ1 16 (nI (i + 1))) := (a2.wk (by decide) (by decide)).sI (by decide)
  have hX1 : MX w t rd pl c sp (sI τ1 16 (nI (i + 1))) := hX.fr fr1' (by decide) (by decide) (by decide) (by decide) (by decide) (by decide)
  unfold F_mX11_goes_101
  rw [hg, h16, if_neg (show ¬ (2000 : Int32) ≤ nI i from nI_ge (b := 2000) hi (by omega)), hm.2.2.1, if_pos (ib_nI (by omega) (by omega)), hS.1, mx_wait hd hs hc hX hat (by omega), bd_is, hm.2.2.1, if_pos (ib_nI (by omega) (by omega)), nI_clamp (by omega), hS.1, hS.2.1, h16, a1, bv_is, hv, b16, nI_1, m_ord hX1.2.1 hc, bd_is]
  generalize hτ2 : sI τ1 16 (nI (i + 1)) = τ2 at *
  have c16 : τ2.1 16 = nI (i + 1) := by rw [← hτ2]; rfl
  have c17 : τ2.1 17 = τ.1 17 := by rw [← hτ2]; exact a2.1 17 (by decide)
  by_cases hw : wrg c (mv m) = true
  · have e1 : evw c m = 63 := by unfold evw; rw [if_pos hw]
    have e2 : evx c m = 0 := by unfold evx; rw [if_pos hw]
    have e3 : fin c m = 1 := by unfold fin; rw [if_pos hw]
    rw [if_pos hw, if_neg (by decide), e1, e2, e3]
    refine ⟨sI τ2 17 1, by rw [if_neg (show ¬ (1 : Nat) = 2 by decide)], fr1'.sI (by decide), c16, ?_, fun h => absurd h (by decide), fun _ => ⟨rfl, hMC1⟩⟩
    unfold evS
    rw [if_pos rfl]
    exact hMS1
  · obtain ⟨w0, w1, w2, w3⟩ := wrg_f hw
    have e1 : evw c m = if 1 ≤ opN (mv m) ∧ opN (mv m) ≤ 5 then wdN (mv m) else 63 := by unfold evw; rw [if_neg hw]
    have e3 : fin c m = if opN (mv m) = 0 then 0 else 2 := by unfold fin; rw [if_neg hw]
    obtain ⟨x, hx, ex⟩ := nI_of w0
    obtain ⟨d1, d2, d3⟩ := ord_div hx
    have o1 : opN (mv m) = x / 10000 := by rw [ex]; unfold opN; rw [nI_clamp hx]
    have o2 : wdN (mv m) = x / 100 % 100 := by rw [ex]; unfold wdN; rw [nI_clamp hx]
    have o3 : nxN (mv m) = x % 100 := by rw [ex]; unfold nxN; rw [nI_clamp hx]
    have hdv : mv m / 10000 = nI (opN (mv m)) ∧ (mv m / 100) - (mv m / 100) / 100 * 100 = nI (wdN (mv m)) ∧ mv m - mv m / 100 * 100 = nI (nxN (mv m)) := by
      rw [o1, o2, o3, ex]
      exact ⟨d1, d2, d3⟩
    have hfin : ∀ z τ' : St, F_mX11_goes_316 g (nI (opN (mv m))) (nI (wdN (mv m))) (nI (nxN (mv m))) z = (if opN (mv m) = 0 then some τ' else g τ') → F_mX11_goes_316 g (nI (opN (mv m))) (nI (wdN (mv m))) (nI (nxN (mv m))) z = (if fin c m = 2 then g τ' else some τ') := by
      intro z τ' h
      rw [h, e3]
      by_cases h0 : opN (mv m) = 0
      · simp (decide := true) only [h0, if_true, if_false, ite_true, ite_false]
      · simp (decide := true) only [h0, if_true, if_false, ite_true, ite_false]
    rw [if_neg hw, if_pos rfl, nm_is, nm_is, hdv.1, hdv.2.1, hdv.2.2, m_reads w1, bd_is]
    by_cases hrd : 1 ≤ opN (mv m) ∧ opN (mv m) ≤ 5
    · have e1' : evw c m = wdN (mv m) := by rw [e1, if_pos hrd]
      have hwne : ¬ wdN (mv m) = 63 := by omega
      have hr2 := rn_ok hd hs (wdN (mv m)) w2
      have hwl2 := wt_lt (p := phF w sp (wdN (mv m))) (t := S.1 + wt (phF w sp m.2.2.1) (rnF w rd sp m.2.2.1) S.1 + 1) hr2.1
      obtain ⟨τ3, q1, q2, q3⟩ := m_meet17 (p := phF w sp (wdN (mv m))) (r := rnF w rd sp (wdN (mv m))) (i := i) hc w2 hMS1
      have hMC3 : MC c m τ3 := ⟨fun n hn => (congrFun (q2.2 14 (by decide)) n).trans (hMC1.1 n hn), (q2.1 18 (by decide)).trans hMC1.2.1, (q2.1 19 (by decide)).trans hMC1.2.2.1, (q2.1 20 (by decide)).trans hMC1.2.2.2.1, fun j h1 h2 => (congrFun (q2.2 15 (by decide)) j).trans (hMC1.2.2.2.2 j h1 h2)⟩
      obtain ⟨τ4, p1, p2, p3, p4, p5⟩ := m_316 hc hi hpc hw hMC3 q3 g
      rw [if_pos hrd, if_neg (by decide), hMS1.1, mx_wait hd hs hc hX1 w2 (by show S.1 + wt (phF w sp m.2.2.1) (rnF w rd sp m.2.2.1) S.1 + 1 < _; omega), bd_is, if_pos (ib_nI (by omega) (by omega)), nI_clamp (by omega), c16, nI_pred, hMS1.1, hMS1.2.1, q1, bv_is]
      refine ⟨τ4, hfin τ3 τ4 p1, (fr1'.tr (q2.wk (by decide) (by decide))).tr (p2.wk (by decide) (by decide)), (p2.1 16 (by decide)).trans ((q2.1 16 (by decide)).trans c16), ?_, fun h => ?_, fun h => ?_⟩
      · unfold evS
        rw [e1', if_neg hwne]
        exact p3
      · have h0 : opN (mv m) ≠ 0 := by omega
        exact ⟨(p4 h0).1.trans ((q2.1 17 (by decide)).trans c17), (p4 h0).2⟩
      · exact absurd (by rw [e3, if_neg (by omega)]) h
    · have e1' : evw c m = 63 := by rw [e1, if_neg hrd]
      obtain ⟨τ4, p1, p2, p3, p4, p5⟩ := m_316 hc hi hpc hw hMC1 hMS1 g
      rw [if_neg hrd, if_pos rfl]
      refine ⟨τ4, hfin τ2 τ4 p1, fr1'.tr (p2.wk (by decide) (by decide)), (p2.1 16 (by decide)).trans c16, ?_, fun h => ?_, fun h => ?_⟩
      · unfold evS
        rw [e1', if_pos rfl]
        exact p3
      · have h0 : opN (mv m) ≠ 0 := by
          intro z
          rw [e3, if_pos z] at h
          omega
        exact ⟨(p4 h0).1.trans c17, (p4 h0).2⟩
      · have h0 : opN (mv m) = 0 := by
          by_cases z : opN (mv m) = 0
          · exact z
          · exact absurd (by rw [e3, if_neg z]) h
        have e4 : fin c m = 0 := by rw [e3, if_pos h0]
        rw [e4]
        exact p5 h0
theorem stL_le {w t : Nat} {rd pl : Nat → Nat} (hd : DOK w t rd pl) {c : Nat} {sp : Nat → Nat} (hs : ∀ n, n < c → there w t pl (sp n)) {i : Nat} {m : Ms} {S : Sm} (hc : c ≤ 40) (hat : m.2.2.1 < c) (ht : S.1 ≤ 130 * i) : (evS (phF w sp) (rnF w rd sp) i (m.2.2.1, evw c m, evx c m) S).1 ≤ 130 * (i + 1) := by
  have h := tmL_le (ph := phF w sp) (rn_ok hd hs) [(m.2.2.1, evw c m, evx c m)] S.1 (fun e he => by
    rw [List.mem_singleton.mp he]
    exact ⟨hat, evw_cases hc, evx_lt c m⟩)
  have h2 : tmL (phF w sp) (rnF w rd sp) [(m.2.2.1, evw c m, evx c m)] S.1 = (evS (phF w sp) (rnF w rd sp) i (m.2.2.1, evw c m, evx c m) S).1 := (evS_t _ _ _ _ _).symm
  rw [h2] at h
  have h3 : [(m.2.2.1, evw c m, evx c m)].length = 1 := rfl
  omega
theorem m_goes101 {w t : Nat} {rd pl : Nat → Nat} (hd : DOK w t rd pl) {c : Nat} {sp : Nat → Nat} (hs : ∀ n, n < c → there w t pl (sp n)) (hc : c ≤ 40) : ∀ (n k i : Nat) (τ : St) (m : Ms) (S : Sm), i + k = 2000 → k < n → MX w t rd pl c sp τ → MC c m τ → MS c S τ → m.2.2.1 < c → m.2.2.2.1 ≤ i → τ.1 16 = nI i → τ.1 17 = 2 → S.1 ≤ 130 * i →
    ∃ τ', F_mX11_goes_101 n τ = some τ' ∧ fr1 [16, 17, 18, 19, 20, 21, 22] [14, 15, 16, 17, 18, 19, 20] τ τ' ∧ τ'.1 16 = nI (i + rlen c k m) ∧ τ'.1 17 = nI (rend c k m) ∧ MC c (rms c k m) τ' ∧ MS c (stL (phF w sp) (rnF w rd sp) (rev c k m) i S) τ' := by
  intro n
  induction n with
  | zero => intro k i τ m S h1 h2; omega
  | succ n ih =>
    intro k i τ m S hik hkn hX hm hS hat hpc h16 h17 ht
    by_cases hk : k = 0
    · subst hk
      unfold F_mX11_goes_101
      rw [h16, if_pos (show (2000 : Int32) ≤ nI i from nI_le (a := 2000) (by omega) (by omega))]
      exact ⟨τ, rfl, fr1.rf, h16, h17, hm, hS⟩
    · obtain ⟨k, rfl⟩ : ∃ k', k = k' + 1 := ⟨k - 1, by omega⟩
      obtain ⟨τ1, e1, f1, t1, s1, g2, g1⟩ := m_step (n := n) hd hs hc hX hm hS hat hpc h16 (by omega) ht rfl
      rw [e1]
      show ∃ τ', (if fin c m = 2 then F_mX11_goes_101 n τ1 else some τ1) = some τ' ∧ fr1 [16, 17, 18, 19, 20, 21, 22] [14, 15, 16, 17, 18, 19, 20] τ τ' ∧ τ'.1 16 = nI (i + (if fin c m = 2 then rlen c k (nxt m) + 1 else 1)) ∧ τ'.1 17 = nI (if fin c m = 2 then rend c k (nxt m) else fin c m) ∧ MC c (if fin c m = 2 then rms c k (nxt m) else m) τ' ∧ MS c (stL (phF w sp) (rnF w rd sp) (if fin c m = 2 then rev c k (nxt m) else []) (i + 1) (evS (phF w sp) (rnF w rd sp) i (m.2.2.1, evw c m, evx c m) S)) τ'
      by_cases hf : fin c m = 2
      · obtain ⟨g3, g4⟩ := g2 hf
        obtain ⟨τ', a1, a2, a3, a4, a5, a6⟩ := ih k (i + 1) τ1 (nxt m) _ (by omega) (by omega) (hX.fr f1 (by decide) (by decide) (by decide) (by decide) (by decide) (by decide)) g4 s1 (nxat_lt hf) (by have := nxpc_le m; omega) t1 (g3.trans h17) (stL_le hd hs hc hat ht)
        rw [if_pos hf, if_pos hf, if_pos hf, if_pos hf, if_pos hf]
        refine ⟨τ', a1, f1.tr a2, ?_, a4, a5, a6⟩
        rw [a3]; congr 1; omega
      · obtain ⟨g3, g4⟩ := g1 hf
        rw [if_neg hf, if_neg hf, if_neg hf, if_neg hf, if_neg hf]
        exact ⟨τ1, rfl, f1, t1, g3, g4, s1⟩
theorem m_goes2 {c : Nat} (hc : c ≤ 40) {val : Nat → Int32} : ∀ (n k : Nat) (τ : St), τ.1 12 = nI c → (∀ j, j < c → τ.2.1 6 j = val j) → k ≤ c → c < n + k → (∀ j, j < k → τ.2.1 14 j = val j ∧ τ.2.1 16 j = 0 ∧ τ.2.1 17 j = 0 ∧ τ.2.1 18 j = 0 ∧ τ.2.1 19 j = -1 ∧ τ.2.1 20 j = -1) →
    ∃ τ', F_mX11_goes_2 n (nI k) τ = F_mX11_goes_101 FU (sI (sI (sI (sI (sI (sI (sI τ' 16 0) 17 2) 18 0) 19 (τ'.1 13)) 20 0) 21 0) 22 0) ∧ fr1 [] [14, 16, 17, 18, 19, 20] τ τ' ∧ ∀ j, j < c → τ'.2.1 14 j = val j ∧ τ'.2.1 16 j = 0 ∧ τ'.2.1 17 j = 0 ∧ τ'.2.1 18 j = 0 ∧ τ'.2.1 19 j = -1 ∧ τ'.2.1 20 j = -1 := by
  intro n
  induction n with
  | zero => intro k τ _ _ h1 h2; omega
  | succ n ih =>
    intro k τ h12 h6 h1 h2 hz
    unfold F_mX11_goes_2
    rw [h12]
    by_cases e : k = c
    · subst e
      rw [if_pos (nI_le (Nat.le_refl _) (by omega))]
      exact ⟨τ, rfl, fr1.rf, hz⟩
    · rw [if_neg (nI_ge (by omega) (by omega)), if_pos (ib_nI (by omega) (by omega)), nI_clamp (by omega), h6 k (by omega), nI_1]
      have hfr : fr1 [] [14, 16, 17, 18, 19, 20] τ (sA (sA (sA (sA (sA (sA τ 14 (upd (τ.2.1 14) k (val k))) 16 (upd (τ.2.1 16) k 0)) 17 (upd (τ.2.1 17) k 0)) 18 (upd (τ.2.1 18) k 0)) 19 (upd (τ.2.1 19) k (-1))) 20 (upd (τ.2.1 20) k (-1))) := (((((fr1.rf.sA (by decide)).sA (by decide)).sA (by decide)).sA (by decide)).sA (by decide)).sA (by decide)
      obtain ⟨τ', a1, a2, a3⟩ := ih (k + 1) _ ((hfr.1 12 (by decide)).trans h12) (fun j hj => (congrFun (hfr.2 6 (by decide)) j).trans (h6 j hj)) (by omega) (by omega) (fun j hj => by
        show upd (τ.2.1 14) k (val k) j = val j ∧ upd (τ.2.1 16) k 0 j = 0 ∧ upd (τ.2.1 17) k 0 j = 0 ∧ upd (τ.2.1 18) k 0 j = 0 ∧ upd (τ.2.1 19) k (-1) j = -1 ∧ upd (τ.2.1 20) k (-1) j = -1
        simp only [u_is]
        by_cases e2 : j = k
        · simp only [if_pos e2]
          rw [e2]
          refine ⟨rfl, ?_, ?_, ?_, ?_, ?_⟩ <;> trivial
        · simp only [if_neg e2]
          exact hz j (by omega))
      exact ⟨τ', a1, hfr.tr a2, a3⟩
/-- the reference's run -/
theorem m_goes {w t : Nat} {rd pl : Nat → Nat} (hd : DOK w t rd pl) {c en : Nat} {val : Nat → Int32} {sp : Nat → Nat} (hs : ∀ n, n < c → there w t pl (sp n)) (hc : c ≤ 40) (hen : en < c) {τ : St} (hD : MD w t rd pl τ) (hP : MP c en val τ) (h7 : ∀ n, n < c → τ.2.1 7 n = nI (sp n)) :
    ∃ τ', F_mX11_goes τ = some τ' ∧ fr1 [16, 17, 18, 19, 20, 21, 22] [14, 15, 16, 17, 18, 19, 20] τ τ' ∧ τ'.1 16 = nI (rlen c 2000 (m0 val en)) ∧ τ'.1 17 = nI (rend c 2000 (m0 val en)) ∧ MC c (rms c 2000 (m0 val en)) τ' ∧ MS c (stL (phF w sp) (rnF w rd sp) (rev c 2000 (m0 val en)) 0 S0) τ' := by
  unfold F_mX11_goes
  obtain ⟨τ1, a1, a2, a3⟩ := m_goes2 hc FU 0 τ hP.1 hP.2.2 (Nat.zero_le _) (by rw [FU_is]; omega) (fun j hj => absurd hj (Nat.not_lt_zero _))
  have hfr : fr1 [16, 17, 18, 19, 20, 21, 22] [14, 15, 16, 17, 18, 19, 20] τ (sI (sI (sI (sI (sI (sI (sI τ1 16 0) 17 2) 18 0) 19 (τ1.1 13)) 20 0) 21 0) 22 0) := (((((((a2.wk (by decide) (by decide)).sI (by decide)).sI (by decide)).sI (by decide)).sI (by decide)).sI (by decide)).sI (by decide)).sI (by decide)
  have hX : MX w t rd pl c sp τ := ⟨hD, hP.1, h7⟩
  obtain ⟨τ', b1, b2, b3, b4, b5, b6⟩ := m_goes101 hd hs hc FU 2000 0 (sI (sI (sI (sI (sI (sI (sI τ1 16 0) 17 2) 18 0) 19 (τ1.1 13)) 20 0) 21 0) 22 0) (m0 val en) S0 rfl (by rw [FU_is]; omega) (hX.fr hfr (by decide) (by decide) (by decide) (by decide) (by decide) (by decide))
    ⟨fun n hn => (a3 n hn).1, rfl, (a2.1 13 (by decide)).trans hP.2.1, rfl, fun j _ hj => absurd hj (Nat.not_lt_zero _)⟩
    ⟨rfl, rfl, fun n hn => ⟨(a3 n hn).2.1, (a3 n hn).2.2.1, (a3 n hn).2.2.2.1, (a3 n hn).2.2.2.2.1, (a3 n hn).2.2.2.2.2⟩⟩ hen (Nat.le_refl _) rfl rfl (Nat.zero_le _)
  rw [Nat.zero_add] at b3
  exact ⟨τ', a1.trans b1, hfr.tr b2, b3, b4, b5, b6⟩
theorem m_timeNow {w t : Nat} {rd pl : Nat → Nat} (hd : DOK w t rd pl) {c en : Nat} {val : Nat → Int32} {sp : Nat → Nat} (hs : ∀ n, n < c → there w t pl (sp n)) (hc : c ≤ 40) (hen : en < c) {τ : St} (hD : MD w t rd pl τ) (hP : MP c en val τ) (h7 : ∀ n, n < c → τ.2.1 7 n = nI (sp n)) :
    ∃ τ', F_mX11_timeNow τ = some (nI (tmS w rd c en val sp), τ') ∧ fr1 [16, 17, 18, 19, 20, 21, 22] [14, 15, 16, 17, 18, 19, 20] τ τ' := by
  obtain ⟨τ', a1, a2, -, -, -, a6⟩ := m_goes hd hs hc hen hD hP h7
  refine ⟨τ', ?_, a2⟩
  unfold F_mX11_timeNow
  rw [a1, bv_is, a6.1, stL_t]
  rfl
