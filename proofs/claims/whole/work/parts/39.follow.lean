/-! the class's course and its time -/
def rlen (c : Nat) : Nat → Ms → Nat
  | 0, _ => 0
  | k + 1, m => if fin c m = 2 then rlen c k (nxt m) + 1 else 1
def rend (c : Nat) : Nat → Ms → Nat
  | 0, _ => 2
  | k + 1, m => if fin c m = 2 then rend c k (nxt m) else fin c m
def rms (c : Nat) : Nat → Ms → Ms
  | 0, m => m
  | k + 1, m => if fin c m = 2 then rms c k (nxt m) else m
def rev (c : Nat) : Nat → Ms → List (Nat × Nat × Nat)
  | 0, _ => []
  | k + 1, m => (m.2.2.1, evw c m, evx c m) :: (if fin c m = 2 then rev c k (nxt m) else [])
def m0 (val : Nat → Int32) (en : Nat) : Ms := (val, 0, en, 0, fun _ => 0)
def TR (f : Nat → Int32) : Nat → List (Nat × Nat × Nat) → Prop
  | _, [] => True
  | i, e :: l => f i = nI (encN e.1 e.2.1 e.2.2) ∧ TR f (i + 1) l
def EVok (c : Nat) (l : List (Nat × Nat × Nat)) : Prop := ∀ e ∈ l, e.1 < c ∧ (e.2.1 = 63 ∨ e.2.1 < c) ∧ e.2.2 < 64
theorem fin_le (c : Nat) (m : Ms) : fin c m ≤ 2 := by
  unfold fin
  split
  · omega
  · split <;> omega
theorem fin_2 {c : Nat} {m : Ms} (h : fin c m = 2) : ¬ wrg c (mv m) = true := by
  intro hw
  unfold fin at h
  rw [if_pos hw] at h
  omega
theorem nxat_lt {c : Nat} {m : Ms} (h : fin c m = 2) : nxat m < c := by
  obtain ⟨-, -, h1, h2⟩ := wrg_f (fin_2 h)
  unfold nxat
  split
  · split <;> assumption
  · split
    · split <;> assumption
    · exact h2
theorem nxpc_le (m : Ms) : (nxt m).2.2.2.1 ≤ m.2.2.2.1 + 1 := by
  show (if opN (mv m) = 8 then m.2.2.2.1 + 1 else m.2.2.2.1) ≤ _
  split <;> omega
theorem rev_len (c : Nat) : ∀ (k : Nat) (m : Ms), (rev c k m).length = rlen c k m := by
  intro k
  induction k with
  | zero => intro m; rfl
  | succ k ih =>
    intro m
    show ((m.2.2.1, evw c m, evx c m) :: (if fin c m = 2 then rev c k (nxt m) else [])).length = (if fin c m = 2 then rlen c k (nxt m) + 1 else 1)
    by_cases h : fin c m = 2
    · rw [if_pos h, if_pos h, List.length_cons, ih]
    · rw [if_neg h, if_neg h]; rfl
theorem rlen_le (c : Nat) : ∀ (k : Nat) (m : Ms), rlen c k m ≤ k := by
  intro k
  induction k with
  | zero => intro m; exact Nat.le_refl _
  | succ k ih =>
    intro m
    show (if fin c m = 2 then rlen c k (nxt m) + 1 else 1) ≤ k + 1
    have := ih (nxt m)
    split <;> omega
theorem rev_ok {c : Nat} (hc : c ≤ 40) : ∀ (k : Nat) (m : Ms), m.2.2.1 < c → EVok c (rev c k m) := by
  intro k
  induction k with
  | zero => intro m _ e he; cases he
  | succ k ih =>
    intro m hm e he
    rcases List.mem_cons.mp he with rfl | he
    · exact ⟨hm, evw_cases hc, evx_lt c m⟩
    · by_cases h : fin c m = 2
      · rw [if_pos h] at he
        exact ih (nxt m) (nxat_lt h) e he
      · rw [if_neg h] at he
        cases he
theorem rms_at {c : Nat} : ∀ (k : Nat) (m : Ms), m.2.2.1 < c → (rms c k m).2.2.1 < c := by
  intro k
  induction k with
  | zero => intro m h; exact h
  | succ k ih =>
    intro m hm
    show (if fin c m = 2 then rms c k (nxt m) else m).2.2.1 < c
    by_cases h : fin c m = 2
    · rw [if_pos h]; exact ih (nxt m) (nxat_lt h)
    · rw [if_neg h]; exact hm
theorem rms_pc {c : Nat} : ∀ (k : Nat) (m : Ms), (rms c k m).2.2.2.1 ≤ m.2.2.2.1 + k := by
  intro k
  induction k with
  | zero => intro m; exact Nat.le_refl _
  | succ k ih =>
    intro m
    show (if fin c m = 2 then rms c k (nxt m) else m).2.2.2.1 ≤ _
    have h1 := ih (nxt m)
    have h2 := nxpc_le m
    split <;> omega
theorem TR_kept {f g : Nat → Int32} : ∀ (l : List (Nat × Nat × Nat)) (i : Nat), (∀ j, i ≤ j → g j = f j) → TR f i l → TR g i l := by
  intro l
  induction l with
  | nil => intro i _ _; trivial
  | cons e l ih =>
    intro i hg h
    exact ⟨(hg i (Nat.le_refl _)).trans h.1, ih (i + 1) (fun j hj => hg j (by omega)) h.2⟩
theorem XP.fr {c en : Nat} {val : Nat → Int32} {σ σ' : St} {S Q : List Nat} (h : XP c en val σ) (hf : fr1 S Q σ σ') (h1 : 11 ∉ S) (h2 : 12 ∉ S) (h3 : 11 ∉ Q) : XP c en val σ' := ⟨(hf.1 11 h1).trans h.1, (hf.1 12 h2).trans h.2.1, fun n hn => by rw [hf.2 11 h3]; exact h.2.2 n hn⟩
theorem x_follow43 {c en : Nat} {val : Nat → Int32} (hc : c ≤ 40) : ∀ (n k i : Nat) (σ : St) (m : Ms), i + k = 2000 → k < n → XP c en val σ → XC c m σ → m.2.2.1 < c → m.2.2.2.1 ≤ i → σ.1 18 = nI i → σ.1 19 = 2 →
    ∃ σ', F_xX0_follow_43 n σ = some σ' ∧ fr1 [18, 19, 20, 21, 22] [38, 39, 40] σ σ' ∧ σ'.1 18 = nI (i + rlen c k m) ∧ σ'.1 19 = nI (rend c k m) ∧ XC c (rms c k m) σ' ∧ (∀ j, j < i → σ'.2.1 38 j = σ.2.1 38 j) ∧ TR (σ'.2.1 38) i (rev c k m) := by
  intro n
  induction n with
  | zero => intro k i σ m h1 h2; omega
  | succ n ih =>
    intro k i σ m hik hkn hP hm hat hpc h18 h19
    unfold F_xX0_follow_43
    rw [h19, if_pos rfl, h18]
    by_cases hk : k = 0
    · subst hk
      rw [if_pos (show (2000 : Int32) ≤ nI i from nI_le (a := 2000) (by omega) (by omega))]
      exact ⟨σ, rfl, fr1.rf, h18, h19, hm, fun _ _ => rfl, trivial⟩
    · obtain ⟨k, rfl⟩ : ∃ k', k = k' + 1 := ⟨k - 1, by omega⟩
      rw [if_neg (show ¬ (2000 : Int32) ≤ nI i from nI_ge (b := 2000) (by omega) (by omega))]
      obtain ⟨σ1, e1, f1, t1, g2, g1⟩ := x_step hc hP hm hat hpc h18 (by omega)
      have e18 : σ1.1 18 = nI i := (f1.1 18 (by decide)).trans h18
      rw [e1, bv_is, e18, nI_1]
      have fr' : fr1 [18, 19, 20, 21, 22] [38, 39, 40] σ (sI σ1 18 (nI (i + 1))) := (f1.wk (by decide) (by decide)).sI (by decide)
      show ∃ σ', F_xX0_follow_43 n (sI σ1 18 (nI (i + 1))) = some σ' ∧ fr1 [18, 19, 20, 21, 22] [38, 39, 40] σ σ' ∧ σ'.1 18 = nI (i + (if fin c m = 2 then rlen c k (nxt m) + 1 else 1)) ∧ σ'.1 19 = nI (if fin c m = 2 then rend c k (nxt m) else fin c m) ∧ XC c (if fin c m = 2 then rms c k (nxt m) else m) σ' ∧ (∀ j, j < i → σ'.2.1 38 j = σ.2.1 38 j) ∧ (σ'.2.1 38 i = nI (encN m.2.2.1 (evw c m) (evx c m)) ∧ TR (σ'.2.1 38) (i + 1) (if fin c m = 2 then rev c k (nxt m) else []))
      by_cases hf : fin c m = 2
      · obtain ⟨g3, g4⟩ := g2 hf
        obtain ⟨σ', a1, a2, a3, a4, a5, a6, a7⟩ := ih k (i + 1) (sI σ1 18 (nI (i + 1))) (nxt m) (by omega) (by omega) (hP.fr fr' (by decide) (by decide) (by decide)) g4 (nxat_lt hf) (by have := nxpc_le m; omega) rfl (g3.trans h19)
        rw [if_pos hf, if_pos hf, if_pos hf, if_pos hf]
        refine ⟨σ', a1, fr'.tr a2, ?_, a4, a5, fun j hj => ?_, ?_, a7⟩
        · rw [a3]; congr 1; omega
        · rw [a6 j (by omega)]
          show σ1.2.1 38 j = _
          rw [t1, u_is, if_neg (by omega)]
        · rw [a6 i (by omega)]
          show σ1.2.1 38 i = _
          rw [t1, u_is, if_pos rfl]
      · obtain ⟨g3, g4⟩ := g1 hf
        have hfl := fin_le c m
        rw [if_neg hf, if_neg hf, if_neg hf, if_neg hf]
        refine ⟨sI σ1 18 (nI (i + 1)), ?_, fr', rfl, g3, g4, fun j hj => ?_, ?_, trivial⟩
        · cases n with
          | zero => omega
          | succ n =>
            unfold F_xX0_follow_43
            have e19 : (sI σ1 18 (nI (i + 1))).1 19 = nI (fin c m) := g3
            rw [e19, if_neg (show ¬ nI (fin c m) = 2 from fun z => hf ((nI_eq (b := 2) (by omega) (by omega)).mp z))]
        · show σ1.2.1 38 j = _
          rw [t1, u_is, if_neg (by omega)]
        · show σ1.2.1 38 i = _
          rw [t1, u_is, if_pos rfl]
theorem x_follow {c en : Nat} {val : Nat → Int32} (hc : c ≤ 40) {σ : St} (hP : XP c en val σ) (hen : en < c) :
    ∃ σ', F_xX0_follow σ = some σ' ∧ fr1 [18, 19, 20, 21, 22] [38, 39, 40] σ σ' ∧ σ'.1 18 = nI (rlen c 2000 (m0 val en)) ∧ σ'.1 19 = nI (rend c 2000 (m0 val en)) ∧ XC c (rms c 2000 (m0 val en)) σ' ∧ TR (σ'.2.1 38) 0 (rev c 2000 (m0 val en)) := by
  unfold F_xX0_follow
  have hfr : fr1 [18, 19, 20, 21, 22] [38, 39, 40] σ (sA (sI (sI (sI (sI (sI σ 18 0) 19 2) 20 0) 21 (σ.1 12)) 22 0) 39 (va_cpy (σ.2.1 11) (σ.2.1 39) 0 0 40)) := (((((fr1.rf.sI (by decide)).sI (by decide)).sI (by decide)).sI (by decide)).sI (by decide)).sA (by decide)
  obtain ⟨σ', a1, a2, a3, a4, a5, -, a7⟩ := x_follow43 (c := c) (en := en) (val := val) hc FU 2000 0 _ (m0 val en) rfl (by rw [FU_is]; omega) (hP.fr hfr (by decide) (by decide) (by decide)) ⟨fun n hn => by
      show va_cpy (σ.2.1 11) (σ.2.1 39) 0 0 40 n = val n
      rw [pk_cpy_in (by omega) (by omega), show 0 + (n - 0) = n by omega]
      exact hP.2.2 n hn, rfl, hP.2.1, rfl, fun j _ hj => absurd hj (Nat.not_lt_zero _)⟩ hen (Nat.le_refl _) rfl rfl
  rw [Nat.zero_add] at a3
  exact ⟨σ', a1, hfr.tr a2, a3, a4, a5, a7⟩
/-! the time of a course -/
def tmL (ph rn : Nat → Nat) : List (Nat × Nat × Nat) → Nat → Nat
  | [], t => t
  | e :: l, t => tmL ph rn l ((if e.2.1 = 63 then t + wt (ph e.1) (rn e.1) t + 1 else t + wt (ph e.1) (rn e.1) t + 1 + wt (ph e.2.1) (rn e.2.1) (t + wt (ph e.1) (rn e.1) t + 1) + 1) + e.2.2)
theorem tmL_le {ph rn : Nat → Nat} {c : Nat} (hr : ∀ n, n < c → 0 < rn n ∧ rn n ≤ 32) : ∀ (l : List (Nat × Nat × Nat)) (t : Nat), EVok c l → tmL ph rn l t ≤ t + 130 * l.length := by
  intro l
  induction l with
  | nil => intro t _; exact Nat.le_refl _
  | cons e l ih =>
    intro t he
    have h1 := he e List.mem_cons_self
    have h2 := hr e.1 h1.1
    have h3 := wt_lt (p := ph e.1) (t := t) h2.1
    have h4 := ih ((if e.2.1 = 63 then t + wt (ph e.1) (rn e.1) t + 1 else t + wt (ph e.1) (rn e.1) t + 1 + wt (ph e.2.1) (rn e.2.1) (t + wt (ph e.1) (rn e.1) t + 1) + 1) + e.2.2) (fun x hx => he x (List.mem_cons_of_mem _ hx))
    have h5 : (if e.2.1 = 63 then t + wt (ph e.1) (rn e.1) t + 1 else t + wt (ph e.1) (rn e.1) t + 1 + wt (ph e.2.1) (rn e.2.1) (t + wt (ph e.1) (rn e.1) t + 1) + 1) ≤ t + 64 := by
      by_cases hw : e.2.1 = 63
      · rw [if_pos hw]; omega
      · rw [if_neg hw]
        have h6 := hr e.2.1 (h1.2.1.resolve_left hw)
        have h7 := wt_lt (p := ph e.2.1) (t := t + wt (ph e.1) (rn e.1) t + 1) h6.1
        omega
    have h8 := h1.2.2
    show tmL ph rn l _ ≤ t + 130 * (l.length + 1)
    omega
theorem x_time4 {c : Nat} (hc : c ≤ 40) {ph rn : Nat → Nat} (hr : ∀ n, n < c → 0 < rn n ∧ rn n ≤ 32) {σ : St} (hX : ∀ n, n < c → σ.2.1 27 n = nI (ph n % rn n) ∧ σ.2.1 28 n = nI (rn n)) : ∀ (n : Nat) (l : List (Nat × Nat × Nat)) (i t : Nat), TR (σ.2.1 38) i l → EVok c l → σ.1 18 = nI (i + l.length) → i + l.length ≤ 2000 → l.length < n → t + 130 * l.length < 2 ^ 30 → F_xX3_timeOf_4 n (nI t) (nI i) σ = some (nI (tmL ph rn l t), σ) := by
  intro n
  induction n with
  | zero => intro l i t _ _ _ _ h; omega
  | succ n ih =>
    intro l i t hT he h18 h2 h3 h4
    unfold F_xX3_timeOf_4
    rw [h18]
    cases l with
    | nil =>
      have h2' : i ≤ 2000 := h2
      rw [if_pos (show nI (i + ([] : List (Nat × Nat × Nat)).length) ≤ nI i from nI_le (a := i) (b := i) (Nat.le_refl _) (by omega))]
      rfl
    | cons e l =>
      have hl : (e :: l).length = l.length + 1 := rfl
      rw [hl] at h18 h2 h3 h4 ⊢
      have h1 := he e List.mem_cons_self
      have hr1 := hr e.1 h1.1
      have hX1 := hX e.1 h1.1
      have hm1 : ph e.1 % rn e.1 < rn e.1 := Nat.mod_lt _ hr1.1
      have hw1 := wt_lt (p := ph e.1) (t := t) hr1.1
      have hew : e.2.1 < 64 := by rcases h1.2.1 with h | h <;> omega
      rw [if_neg (nI_ge (by omega) (by omega)), if_neg (show ¬ (2000 : Int32) ≤ nI i from nI_ge (b := 2000) (by omega) (by omega)), if_pos (ib_nI (by omega) (by omega)), nI_clamp (by omega), hT.1, enc_n (by omega) hew h1.2.2, bd_is, x_wait (by omega) hX1.1 hX1.2 hm1 hr1.2 (by omega), bd_is, wt_mod, enc_w (by omega) hew h1.2.2, bd_is, nI_1, nI_add]
      have step : ∀ t2 : Nat, t2 = (if e.2.1 = 63 then t + wt (ph e.1) (rn e.1) t + 1 else t + wt (ph e.1) (rn e.1) t + 1 + wt (ph e.2.1) (rn e.2.1) (t + wt (ph e.1) (rn e.1) t + 1) + 1) → t2 ≤ t + 64 → F_xX3_timeOf_68 (F_xX3_timeOf_4 n) (nI t2) (nI i) (nI (encN e.1 e.2.1 e.2.2)) σ = some (nI (tmL ph rn (e :: l) t), σ) := by
        intro t2 ht2 hle
        unfold F_xX3_timeOf_68
        rw [enc_e (by omega) hew h1.2.2, bd_is, nI_add, nI_1]
        have := ih l (i + 1) (t2 + e.2.2) hT.2 (fun x hx => he x (List.mem_cons_of_mem _ hx)) (by rw [h18]; congr 1; omega) (by omega) (by omega) (by have := h1.2.2; omega)
        rw [this]
        show _ = some (nI (tmL ph rn l ((if e.2.1 = 63 then _ else _) + e.2.2)), σ)
        rw [ht2]
      by_cases hw : e.2.1 = 63
      · rw [if_pos (show nI e.2.1 = 63 by rw [hw]; rfl)]
        exact step _ (by rw [if_pos hw]; omega) (by omega)
      · have h6 := h1.2.1.resolve_left hw
        have hr2 := hr e.2.1 h6
        have hX2 := hX e.2.1 h6
        have hm2 : ph e.2.1 % rn e.2.1 < rn e.2.1 := Nat.mod_lt _ hr2.1
        have hw2 := wt_lt (p := ph e.2.1) (t := t + (wt (ph e.1) (rn e.1) t + 1)) hr2.1
        rw [if_neg (show ¬ nI e.2.1 = 63 from fun z => hw ((nI_eq (b := 63) (by omega) (by omega)).mp z)), x_wait (by omega) hX2.1 hX2.2 hm2 hr2.2 (by omega), bd_is, wt_mod, nI_1, nI_add]
        refine step _ ?_ (by omega)
        rw [if_neg hw]
        have e9 : t + (wt (ph e.1) (rn e.1) t + 1) = t + wt (ph e.1) (rn e.1) t + 1 := by omega
        rw [e9]
        omega
def phF (w : Nat) (sp : Nat → Nat) : Nat → Nat := fun n => sp n % w
def rnF (w : Nat) (rd sp : Nat → Nat) : Nat → Nat := fun n => rd (sp n / w)
/-- the time of a run by a laying -/
def tmS (w : Nat) (rd : Nat → Nat) (c en : Nat) (val : Nat → Int32) (sp : Nat → Nat) : Nat := tmL (phF w sp) (rnF w rd sp) (rev c 2000 (m0 val en)) 0
theorem rn_ok {w t : Nat} {rd pl : Nat → Nat} (hd : DOK w t rd pl) {c : Nat} {sp : Nat → Nat} (hs : ∀ n, n < c → there w t pl (sp n)) : ∀ n, n < c → 0 < rnF w rd sp n ∧ rnF w rd sp n ≤ 32 := by
  intro n hn
  have h1 := hd.2.2.2.2 _ (there_lt hd (hs n hn)).2
  have h2 := hd.2.1
  exact ⟨h1.1, by unfold rnF; omega⟩
theorem x_timeOf {w t : Nat} {rd pl : Nat → Nat} (hd : DOK w t rd pl) {c en : Nat} {val : Nat → Int32} {sp : Nat → Nat} (hc : c ≤ 40) (hen : en < c) (hs : ∀ n, n < c → there w t pl (sp n)) {σ : St} (hX : XS w rd c sp σ) (h18 : σ.1 18 = nI (rlen c 2000 (m0 val en))) (hT : TR (σ.2.1 38) 0 (rev c 2000 (m0 val en))) : F_xX3_timeOf σ = some (nI (tmS w rd c en val sp), σ) := by
  have hl := rev_len c 2000 (m0 val en)
  have hl2 := rlen_le c 2000 (m0 val en)
  exact x_time4 hc (rn_ok hd hs) (fun n hn => ⟨(hX n hn).2.1, (hX n hn).2.2⟩) FU (rev c 2000 (m0 val en)) 0 0 hT (rev_ok hc _ _ hen) (by rw [h18, hl, Nat.zero_add]) (by omega) (by rw [FU_is]; omega) (by omega)
