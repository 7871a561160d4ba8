/-! a run, step by step: in words, and the class's -/
abbrev Ms : Type := (Nat → Int32) × Int32 × Nat × Nat × (Nat → Int32)
def opN (v : Int32) : Nat := v.toNatClampNeg / 10000
def wdN (v : Int32) : Nat := v.toNatClampNeg / 100 % 100
def nxN (v : Int32) : Nat := v.toNatClampNeg % 100
def wrg (c : Nat) (v : Int32) : Bool := decide (v < 0) || decide (9 < opN v) || decide (c ≤ wdN v) || decide (c ≤ nxN v)
def mv (m : Ms) : Int32 := m.1 m.2.2.1
def evw (c : Nat) (m : Ms) : Nat := if wrg c (mv m) = true then 63 else if 1 ≤ opN (mv m) ∧ opN (mv m) ≤ 5 then wdN (mv m) else 63
def evx (c : Nat) (m : Ms) : Nat := if wrg c (mv m) = true then 0 else if opN (mv m) = 4 then 2 + pop (m.1 (wdN (mv m))) else if opN (mv m) = 8 then 3 else 0
def fin (c : Nat) (m : Ms) : Nat := if wrg c (mv m) = true then 1 else if opN (mv m) = 0 then 0 else 2
def nxA (m : Ms) : Int32 := if opN (mv m) = 1 then m.1 (wdN (mv m)) else if opN (mv m) = 2 then m.2.1 + m.1 (wdN (mv m)) else if opN (mv m) = 3 then m.2.1 - m.1 (wdN (mv m)) else if opN (mv m) = 4 then m.2.1 * m.1 (wdN (mv m)) else if opN (mv m) = 9 then m.2.1 / 2 else m.2.1
def nxat (m : Ms) : Nat := if opN (mv m) = 6 then (if m.2.1 < 0 then wdN (mv m) else nxN (mv m)) else if opN (mv m) = 7 then (if m.2.1 = 0 then wdN (mv m) else nxN (mv m)) else nxN (mv m)
def nxt (m : Ms) : Ms := (if opN (mv m) = 5 then upd m.1 (wdN (mv m)) m.2.1 else m.1, nxA m, nxat m, if opN (mv m) = 8 then m.2.2.2.1 + 1 else m.2.2.2.1, if opN (mv m) = 8 ∧ m.2.2.2.1 < 100 then upd m.2.2.2.2 m.2.2.2.1 m.2.1 else m.2.2.2.2)
theorem wrg_f {c : Nat} {v : Int32} (h : ¬ wrg c v = true) : ¬ v < 0 ∧ opN v ≤ 9 ∧ wdN v < c ∧ nxN v < c := by
  unfold wrg at h
  simp only [Bool.or_eq_true, decide_eq_true_eq, not_or] at h
  exact ⟨h.1.1.1, by omega, by omega, by omega⟩
theorem ord_div {x : Nat} (hx : x < 2 ^ 31) : nI x / 10000 = nI (x / 10000) ∧ (nI x / 100) - (nI x / 100) / 100 * 100 = nI (x / 100 % 100) ∧ nI x - nI x / 100 * 100 = nI (x % 100) := by
  have h1 : nI x / 100 = nI (x / 100) := pk_div (d := 100) hx (by omega) (by omega)
  refine ⟨pk_div (d := 10000) hx (by omega) (by omega), ?_, pk_rem (d := 100) hx (by omega) (by omega)⟩
  rw [h1]
  exact pk_rem (d := 100) (by omega) (by omega) (by omega)
theorem x_ord {σ : St} {c en : Nat} {val : Nat → Int32} (h : XP c en val σ) (hc : c ≤ 40) (v : Int32) : F_xX5_isOrder v σ = some (if wrg c v = true then 0 else 1, σ) := by
  unfold F_xX5_isOrder F_xX5_opOf F_xX5_wordOf F_xX5_nextOf
  by_cases h0 : v < 0
  · rw [if_pos h0, if_pos (by unfold wrg; simp [h0])]
  rw [if_neg h0, bd_is, bd_is]
  obtain ⟨x, hx, rfl⟩ := nI_of h0
  obtain ⟨e1, e2, e3⟩ := ord_div hx
  have o1 : opN (nI x) = x / 10000 := by unfold opN; rw [nI_clamp hx]
  have o2 : wdN (nI x) = x / 100 % 100 := by unfold wdN; rw [nI_clamp hx]
  have o3 : nxN (nI x) = x % 100 := by unfold nxN; rw [nI_clamp hx]
  rw [e1, e2, e3]
  by_cases h1 : 9 < x / 10000
  · rw [if_pos (show (9 : Int32) < nI (x / 10000) from nI_lt (a := 9) h1 (by omega)), if_pos (by unfold wrg; simp [o1, h1])]
  rw [if_neg (show ¬ (9 : Int32) < nI (x / 10000) from nI_nlt (a := 9) (b := x / 10000) (by omega) (by omega))]
  by_cases h2 : c ≤ x / 100 % 100
  · rw [has_n h (Or.inr (nI_le h2 (by omega))), bd_is, if_pos rfl, if_pos (by unfold wrg; simp [o2, h2])]
  rw [has_y h hc (by omega), bd_is, if_neg (by decide), bd_is]
  by_cases h3 : c ≤ x % 100
  · rw [has_n h (Or.inr (nI_le h3 (by omega))), bd_is, if_pos rfl, if_pos (by unfold wrg; simp [o3, h3])]
  rw [has_y h hc (by omega), bd_is, if_neg (by decide), if_neg]
  unfold wrg
  simp only [Bool.or_eq_true, decide_eq_true_eq, not_or]
  exact ⟨⟨⟨h0, by omega⟩, by omega⟩, by omega⟩
/-- a step in one number -/
def encN (n w e : Nat) : Nat := n + 64 * w + 4096 * e
theorem sh6 : (((6 : Int32) &&& 31).toBitVec.smod 32).toNat = 6 := by decide
theorem sh12 : (((12 : Int32) &&& 31).toBitVec.smod 32).toNat = 12 := by decide
theorem enc_is {n w e : Nat} (hn : n < 64) (hw : w < 64) (he : e < 64) : ((nI n ||| (nI w <<< ((6 : Int32) &&& 31))) ||| (nI e <<< ((12 : Int32) &&& 31))) = nI (encN n w e) := by
  rw [pk_shlN (n := w) _ 6 sh6 (by omega), pk_shlN (n := e) _ 12 sh12 (by omega), fa_or, fa_or]
  congr 1
  unfold encN
  rw [Nat.mul_comm w, Nat.mul_comm e, Nat.or_comm n, Nat.or_comm _ (2 ^ 12 * e), ← Nat.two_pow_add_eq_or_of_lt (i := 6) (b := n) (by omega) w, ← Nat.two_pow_add_eq_or_of_lt (i := 12) (by omega) e]
  omega
theorem enc_n {n w e : Nat} (hn : n < 64) (hw : w < 64) (he : e < 64) (σ : St) : F_xX0_nameIn (nI (encN n w e)) σ = some (nI n, σ) := by
  unfold F_xX0_nameIn
  rw [pk_andN (n := encN n w e) (by unfold encN; omega) (m := 63) 6 (by decide), show encN n w e % 2 ^ 6 = n by unfold encN; omega]
theorem enc_w {n w e : Nat} (hn : n < 64) (hw : w < 64) (he : e < 64) (σ : St) : F_xX0_wordIn (nI (encN n w e)) σ = some (nI w, σ) := by
  unfold F_xX0_wordIn
  rw [pk_shrN (n := encN n w e) (by unfold encN; omega) _ 6 sh6, pk_andN (n := encN n w e / 2 ^ 6) (by unfold encN; omega) (m := 63) 6 (by decide), show encN n w e / 2 ^ 6 % 2 ^ 6 = w by unfold encN; omega]
theorem enc_e {n w e : Nat} (hn : n < 64) (hw : w < 64) (he : e < 64) (σ : St) : F_xX0_extraIn (nI (encN n w e)) σ = some (nI e, σ) := by
  unfold F_xX0_extraIn
  rw [pk_shrN (n := encN n w e) (by unfold encN; omega) _ 12 sh12, show encN n w e / 2 ^ 12 = e by unfold encN; omega]
theorem x_note {σ : St} {i n w e : Nat} (h18 : σ.1 18 = nI i) (hi : i < 2000) (hn : n < 64) (hw : w < 64) (he : e < 64) : F_xX0_note (nI n) (nI w) (nI e) σ = some (sA σ 38 (upd (σ.2.1 38) i (nI (encN n w e)))) := by
  unfold F_xX0_note
  rw [h18, if_neg (nI_pos (by omega)), if_neg (show ¬ (2000 : Int32) ≤ nI i from nI_ge (b := 2000) hi (by omega)), if_pos (ib_nI hi (by omega)), nI_clamp (by omega), enc_is hn hw he]
theorem x_extra {σ : St} {o w : Nat} (ho : o ≤ 9) (hw : w < 40) : F_xX0_extraTime (nI o) (nI w) σ = some (nI (if o = 4 then 2 + pop (σ.2.1 39 w) else if o = 8 then 3 else 0), σ) := by
  unfold F_xX0_extraTime F_xX0_extraTime_27
  by_cases h4 : o = 4
  · subst h4
    rw [if_pos (show nI 4 = 4 from rfl), if_neg (nI_pos (by omega)), if_neg (show ¬ (40 : Int32) ≤ nI w from nI_ge (b := 40) hw (by omega)), if_pos (ib_nI hw (by omega)), nI_clamp (by omega), bc_is, bd_is, if_pos rfl, show (2 : Int32) = nI 2 from rfl, nI_add]
  · rw [if_neg (show ¬ nI o = 4 from fun z => h4 ((nI_eq (b := 4) (by omega) (by omega)).mp z)), if_neg h4]
    by_cases h8 : o = 8
    · subst h8
      rw [if_pos (show nI 8 = 8 from rfl), if_pos rfl]
      rfl
    · rw [if_neg (show ¬ nI o = 8 from fun z => h8 ((nI_eq (b := 8) (by omega) (by omega)).mp z)), if_neg h8]
      rfl
theorem x_reads {o : Nat} (ho : o ≤ 9) (σ : St) : F_xX5_readsWord (nI o) σ = some (if 1 ≤ o ∧ o ≤ 5 then 1 else 0, σ) := by
  unfold F_xX5_readsWord
  by_cases h1 : o < 1
  · rw [if_pos (show nI o < 1 from nI_lt (b := 1) h1 (by omega)), if_neg (by omega)]
  rw [if_neg (show ¬ nI o < 1 from nI_nlt (b := 1) (by omega) (by omega))]
  by_cases h5 : 5 < o
  · rw [if_pos (show (5 : Int32) < nI o from nI_lt (a := 5) h5 (by omega)), if_neg (by omega)]
  · rw [if_neg (show ¬ (5 : Int32) < nI o from nI_nlt (b := o) (a := 5) (by omega) (by omega)), if_pos (by omega)]
/-- the class's course holds the machine m -/
def XC (c : Nat) (m : Ms) (σ : St) : Prop := (∀ n, n < c → σ.2.1 39 n = m.1 n) ∧ σ.1 20 = m.2.1 ∧ σ.1 21 = nI m.2.2.1 ∧ σ.1 22 = nI m.2.2.2.1 ∧ ∀ j, j < 100 → j < m.2.2.2.1 → σ.2.1 40 j = m.2.2.2.2 j
theorem x_at (a b : Nat) (y : Int32) (σ : St) : F_xX0_goStep_144 (nI a) (nI b) y σ = some (sI σ 21 (nI (if y = 0 then b else a))) := by
  unfold F_xX0_goStep_144
  by_cases h : y = 0
  · rw [if_pos h, if_pos h]
  · rw [if_neg h, if_neg h]
theorem pop_34 (v : Int32) : 2 + pop v < 64 := by have := pop_le v; omega
theorem evx_lt (c : Nat) (m : Ms) : evx c m < 64 := by
  unfold evx
  have := pop_34 (m.1 (wdN (mv m)))
  split
  · omega
  · split
    · exact this
    · split <;> omega
theorem evw_cases {c : Nat} {m : Ms} (hc : c ≤ 40) : evw c m = 63 ∨ evw c m < c := by
  unfold evw
  by_cases h : wrg c (mv m) = true
  · rw [if_pos h]; exact Or.inl rfl
  · rw [if_neg h]
    split
    · exact Or.inr (wrg_f h).2.2.1
    · exact Or.inl rfl
theorem evw_lt {c : Nat} {m : Ms} (hc : c ≤ 40) : evw c m < 64 := by
  have := evw_cases (m := m) hc
  omega
theorem x_step {σ : St} {c en i : Nat} {val : Nat → Int32} {m : Ms} (hc : c ≤ 40) (hP : XP c en val σ) (hm : XC c m σ) (hat : m.2.2.1 < c) (hpc : m.2.2.2.1 ≤ i) (h18 : σ.1 18 = nI i) (hi : i < 2000) :
    ∃ σ', F_xX0_goStep σ = some σ' ∧ fr1 [19, 20, 21, 22] [38, 39, 40] σ σ' ∧ σ'.2.1 38 = upd (σ.2.1 38) i (nI (encN m.2.2.1 (evw c m) (evx c m))) ∧
      (fin c m = 2 → σ'.1 19 = σ.1 19 ∧ XC c (nxt m) σ') ∧ (fin c m ≠ 2 → σ'.1 19 = nI (fin c m) ∧ XC c m σ') := by
  have hv : σ.2.1 39 m.2.2.1 = mv m := hm.1 _ hat
  have hstart : F_xX0_goStep σ = F_xX0_goStep_24 (mv m) σ := by
    unfold F_xX0_goStep
    rw [hm.2.2.1, has_y hP hc hat, bd_is, if_neg (by decide), hm.2.2.1, if_pos (ib_nI (by omega) (by omega)), nI_clamp (by omega), hv]
  rw [hstart]
  unfold F_xX0_goStep_24
  rw [x_ord hP hc, bd_is]
  by_cases hw : wrg c (mv m) = true
  · have e1 : evw c m = 63 := by unfold evw; rw [if_pos hw]
    have e2 : evx c m = 0 := by unfold evx; rw [if_pos hw]
    have e3 : fin c m = 1 := by unfold fin; rw [if_pos hw]
    rw [if_pos hw, if_pos rfl, hm.2.2.1]
    have hn := x_note (σ := sI σ 19 1) (w := 63) (e := 0) (i := i) (n := m.2.2.1) h18 hi (by omega) (by omega) (by omega)
    rw [show (63 : Int32) = nI 63 from rfl, show (0 : Int32) = nI 0 from rfl, hn, bv_is, e1, e2, e3]
    refine ⟨_, rfl, (fr1.rf.sI (by decide)).sA (by decide), rfl, fun h => absurd h (by decide), fun _ => ⟨rfl, hm⟩⟩
  · obtain ⟨w0, w1, w2, w3⟩ := wrg_f hw
    have e1 : evw c m = if 1 ≤ opN (mv m) ∧ opN (mv m) ≤ 5 then wdN (mv m) else 63 := by unfold evw; rw [if_neg hw]
    have e2 : evx c m = if opN (mv m) = 4 then 2 + pop (m.1 (wdN (mv m))) else if opN (mv m) = 8 then 3 else 0 := by unfold evx; rw [if_neg hw]
    have e3 : fin c m = if opN (mv m) = 0 then 0 else 2 := by unfold fin; rw [if_neg hw]
    have hex := evx_lt c m
    have hew := evw_lt (m := m) hc
    obtain ⟨x, hx, ex⟩ := nI_of w0
    obtain ⟨d1, d2, d3⟩ := ord_div hx
    have o1 : opN (mv m) = x / 10000 := by rw [ex]; unfold opN; rw [nI_clamp hx]
    have o2 : wdN (mv m) = x / 100 % 100 := by rw [ex]; unfold wdN; rw [nI_clamp hx]
    have o3 : nxN (mv m) = x % 100 := by rw [ex]; unfold nxN; rw [nI_clamp hx]
    have hvx : σ.2.1 39 (wdN (mv m)) = m.1 (wdN (mv m)) := hm.1 _ w2
    have h86 : ∀ y2 : Nat, y2 = evw c m → ∃ σ', F_xX0_goStep_86 (nI (opN (mv m))) (nI (wdN (mv m))) (nI (nxN (mv m))) (nI m.2.2.1) (nI y2) σ = some σ' ∧ fr1 [19, 20, 21, 22] [38, 39, 40] σ σ' ∧ σ'.2.1 38 = upd (σ.2.1 38) i (nI (encN m.2.2.1 (evw c m) (evx c m))) ∧
        (fin c m = 2 → σ'.1 19 = σ.1 19 ∧ XC c (nxt m) σ') ∧ (fin c m ≠ 2 → σ'.1 19 = nI (fin c m) ∧ XC c m σ') := by
      intro y2 hy
      subst hy
      unfold F_xX0_goStep_86
      rw [x_extra w1 (by omega), bd_is, hvx, ← e2, x_note h18 hi (by omega) hew hex, bv_is]
      generalize hT : upd (σ.2.1 38) i (nI (encN m.2.2.1 (evw c m) (evx c m))) = T
      have n40 : nI (wdN (mv m)) < 40 := nI_lt (b := 40) (by omega) (by omega)
      have n0 : ¬ nI (wdN (mv m)) < 0 := nI_pos (by omega)
      have nib : ib (nI (wdN (mv m))) 40 = true := ib_nI (by omega) (by omega)
      have ncl : (nI (wdN (mv m))).toNatClampNeg = wdN (mv m) := nI_clamp (by omega)
      have hs39 : (sA σ 38 T).2.1 39 (wdN (mv m)) = m.1 (wdN (mv m)) := hvx
      have hs20 : (sA σ 38 T).1 20 = m.2.1 := hm.2.1
      unfold F_xX0_work F_xX0_goStep_126
      unfold nxt nxA nxat
      rcases (show opN (mv m) = 0 ∨ opN (mv m) = 1 ∨ opN (mv m) = 2 ∨ opN (mv m) = 3 ∨ opN (mv m) = 4 ∨ opN (mv m) = 5 ∨ opN (mv m) = 6 ∨ opN (mv m) = 7 ∨ opN (mv m) = 8 ∨ opN (mv m) = 9 by omega) with ho | ho | ho | ho | ho | ho | ho | ho | ho | ho
      · rw [e3, ho, if_pos (show nI 0 = 0 from rfl)]
        exact ⟨_, rfl, (fr1.rf.sA (by decide)).sI (by decide), rfl, fun h => absurd h (by decide), fun _ => ⟨rfl, hm⟩⟩
      · simp (decide := true) only [e3, ho, show nI 1 = (1 : Int32) from rfl, n0, n40, nib, ncl, hs39, hs20, bv_is, x_at, if_true, if_false, ite_true, ite_false]
        exact ⟨_, rfl, ((fr1.rf.sA (by decide)).sI (by decide)).sI (by decide), rfl, fun _ => ⟨rfl, hm.1, rfl, rfl, hm.2.2.2.1, hm.2.2.2.2⟩, fun h => False.elim h⟩
      · simp (decide := true) only [e3, ho, show nI 2 = (2 : Int32) from rfl, n0, n40, nib, ncl, hs39, hs20, bv_is, x_at, if_true, if_false, ite_true, ite_false]
        exact ⟨_, rfl, ((fr1.rf.sA (by decide)).sI (by decide)).sI (by decide), rfl, fun _ => ⟨rfl, hm.1, rfl, rfl, hm.2.2.2.1, hm.2.2.2.2⟩, fun h => False.elim h⟩
      · simp (decide := true) only [e3, ho, show nI 3 = (3 : Int32) from rfl, n0, n40, nib, ncl, hs39, hs20, bv_is, x_at, if_true, if_false, ite_true, ite_false]
        exact ⟨_, rfl, ((fr1.rf.sA (by decide)).sI (by decide)).sI (by decide), rfl, fun _ => ⟨rfl, hm.1, rfl, rfl, hm.2.2.2.1, hm.2.2.2.2⟩, fun h => False.elim h⟩
      · simp (decide := true) only [e3, ho, show nI 4 = (4 : Int32) from rfl, n0, n40, nib, ncl, hs39, hs20, bv_is, x_at, if_true, if_false, ite_true, ite_false]
        exact ⟨_, rfl, ((fr1.rf.sA (by decide)).sI (by decide)).sI (by decide), rfl, fun _ => ⟨rfl, hm.1, rfl, rfl, hm.2.2.2.1, hm.2.2.2.2⟩, fun h => False.elim h⟩
      · simp (decide := true) only [e3, ho, show nI 5 = (5 : Int32) from rfl, n0, n40, nib, ncl, hs39, hs20, bv_is, x_at, if_true, if_false, ite_true, ite_false]
        refine ⟨_, rfl, ((fr1.rf.sA (by decide)).sA (by decide)).sI (by decide), rfl, fun _ => ⟨rfl, fun n hn => ?_, hm.2.1, rfl, hm.2.2.2.1, hm.2.2.2.2⟩, fun h => False.elim h⟩
        show upd (σ.2.1 39) (wdN (mv m)) m.2.1 n = upd m.1 (wdN (mv m)) m.2.1 n
        rw [u_is, u_is, hm.1 n hn]
      · by_cases ha : m.2.1 < 0
        · simp (decide := true) only [e3, ho, ha, show nI 6 = (6 : Int32) from rfl, n0, n40, nib, ncl, hs39, hs20, bv_is, x_at, if_true, if_false, ite_true, ite_false]
          exact ⟨_, rfl, (fr1.rf.sA (by decide)).sI (by decide), rfl, fun _ => ⟨rfl, hm.1, hm.2.1, rfl, hm.2.2.2.1, hm.2.2.2.2⟩, fun h => False.elim h⟩
        · simp (decide := true) only [e3, ho, ha, show nI 6 = (6 : Int32) from rfl, n0, n40, nib, ncl, hs39, hs20, bv_is, x_at, if_true, if_false, ite_true, ite_false]
          exact ⟨_, rfl, (fr1.rf.sA (by decide)).sI (by decide), rfl, fun _ => ⟨rfl, hm.1, hm.2.1, rfl, hm.2.2.2.1, hm.2.2.2.2⟩, fun h => False.elim h⟩
      · by_cases ha : m.2.1 = 0
        · simp (decide := true) only [e3, ho, ha, show nI 7 = (7 : Int32) from rfl, n0, n40, nib, ncl, hs39, hs20, bv_is, x_at, if_true, if_false, ite_true, ite_false]
          exact ⟨_, rfl, (fr1.rf.sA (by decide)).sI (by decide), rfl, fun _ => ⟨rfl, hm.1, hm.2.1.trans ha, rfl, hm.2.2.2.1, hm.2.2.2.2⟩, fun h => False.elim h⟩
        · simp (decide := true) only [e3, ho, ha, show nI 7 = (7 : Int32) from rfl, n0, n40, nib, ncl, hs39, hs20, bv_is, x_at, if_true, if_false, ite_true, ite_false]
          exact ⟨_, rfl, (fr1.rf.sA (by decide)).sI (by decide), rfl, fun _ => ⟨rfl, hm.1, hm.2.1, rfl, hm.2.2.2.1, hm.2.2.2.2⟩, fun h => False.elim h⟩
      · have hs22 : (sA σ 38 T).1 22 = nI m.2.2.2.1 := hm.2.2.2.1
        unfold F_xX0_print
        by_cases ha : m.2.2.2.1 < 100
        · simp (decide := true) only [e3, ho, ha, show nI 8 = (8 : Int32) from rfl, n0, n40, nib, ncl, hs39, hs20, hs22, nI_pos (show m.2.2.2.1 < 2 ^ 31 by omega), show ¬ (100 : Int32) ≤ nI m.2.2.2.1 from nI_ge (b := 100) ha (by omega), ib_nI ha (show 100 < 2 ^ 31 by omega), nI_clamp (show m.2.2.2.1 < 2 ^ 31 by omega), nI_1, bv_is, x_at, if_true, if_false, ite_true, ite_false, and_self]
          refine ⟨_, rfl, ((fr1.rf.sA (by decide)).sI (by decide)).sA (by decide) |>.sI (by decide), rfl, fun _ => ⟨rfl, hm.1, hm.2.1, rfl, rfl, fun j hj hj2 => ?_⟩, fun h => False.elim h⟩
          show upd (σ.2.1 40) m.2.2.2.1 m.2.1 j = upd m.2.2.2.2 m.2.2.2.1 m.2.1 j
          rw [u_is, u_is]
          by_cases e : j = m.2.2.2.1
          · rw [if_pos e, if_pos e]
          · rw [if_neg e, if_neg e]
            exact hm.2.2.2.2 j hj (by have hj3 : j < m.2.2.2.1 + 1 := hj2; omega)
        · simp (decide := true) only [e3, ho, ha, show nI 8 = (8 : Int32) from rfl, n0, n40, nib, ncl, hs39, hs20, hs22, nI_pos (show m.2.2.2.1 < 2 ^ 31 by omega), show (100 : Int32) ≤ nI m.2.2.2.1 from nI_le (a := 100) (by omega) (by omega), nI_1, bv_is, x_at, if_true, if_false, ite_true, ite_false, and_false, and_true]
          refine ⟨_, rfl, ((fr1.rf.sA (by decide)).sI (by decide)).sI (by decide), rfl, fun _ => ⟨rfl, hm.1, hm.2.1, rfl, rfl, fun j hj hj2 => ?_⟩, fun h => False.elim h⟩
          exact hm.2.2.2.2 j hj (by omega)
      · simp (decide := true) only [e3, ho, show nI 9 = (9 : Int32) from rfl, n0, n40, nib, ncl, hs39, hs20, bv_is, x_at, if_true, if_false, ite_true, ite_false]
        exact ⟨_, rfl, ((fr1.rf.sA (by decide)).sI (by decide)).sI (by decide), rfl, fun _ => ⟨rfl, hm.1, rfl, rfl, hm.2.2.2.1, hm.2.2.2.2⟩, fun h => False.elim h⟩
    rw [if_neg hw, if_neg (by decide)]
    unfold F_xX5_opOf F_xX5_wordOf F_xX5_nextOf
    rw [bd_is, bd_is, bd_is, ex, d1, d2, d3, ← o1, ← o2, ← o3, x_reads w1, bd_is, hm.2.2.1]
    by_cases hr : 1 ≤ opN (mv m) ∧ opN (mv m) ≤ 5
    · rw [if_pos hr, if_neg (by decide)]
      exact h86 _ (by rw [e1, if_pos hr])
    · rw [if_neg hr, if_pos rfl]
      exact h86 63 (by rw [e1, if_neg hr])
