/-! the chosen names, their spots in order, and the layings of a row -/
def CH (c K : Nat) (B : Nat → Bool) (sp nw rs : Nat → Nat) : Prop := K ≤ 6 ∧ (∀ k, k < K → nw k < c ∧ B (nw k) = true ∧ fb_ct B (nw k) = k) ∧ (∀ n, n < c → B n = true → fb_ct B n < K) ∧ (∀ a b, a < b → b < K → rs a < rs b) ∧ ∀ v, (∃ i, i < K ∧ rs i = v) ↔ ∃ m, m < c ∧ B m = true ∧ sp m = v
def GZ (K z : Nat) : Prop := DG K z ∧ (∀ i, i < K → ∃ k, k < K ∧ dg z k = i) ∧ ∀ i j, i < K → j < K → dg z i = dg z j → i = j
def lyB (B : Nat → Bool) (sp rs : Nat → Nat) (z n : Nat) : Nat := if B n then rs (dg z (fb_ct B n)) else sp n
/-- a laying that only moves the chosen names over their spots -/
def OLD (c K : Nat) (B : Nat → Bool) (sp rs f : Nat → Nat) : Prop := (∀ n, n < c → B n = false → f n = sp n) ∧ ∀ n, n < c → B n = true → ∃ i, i < K ∧ f n = rs i
theorem CH.nw_iff {c K : Nat} {B : Nat → Bool} {sp nw rs : Nat → Nat} (h : CH c K B sp nw rs) {k : Nat} (hk : k < K) (n : Nat) : n = nw k ↔ B n = true ∧ fb_ct B n = k := by
  obtain ⟨h1, h2, h3⟩ := h.2.1 k hk
  constructor
  · intro e; rw [e]; exact ⟨h2, h3⟩
  · intro e; exact fb_inj B e.1 h2 (e.2.trans h3.symm)
theorem CH.rs_inj {c K : Nat} {B : Nat → Bool} {sp nw rs : Nat → Nat} (h : CH c K B sp nw rs) {a b : Nat} (ha : a < K) (hb : b < K) (e : rs a = rs b) : a = b := by
  rcases Nat.lt_trichotomy a b with z | z | z
  · have := h.2.2.2.1 a b z hb; omega
  · exact z
  · have := h.2.2.2.1 b a z ha; omega
theorem CH.of {c K : Nat} {B : Nat → Bool} {sp nw rs : Nat → Nat} (h : CH c K B sp nw rs) {i : Nat} (hi : i < K) : ∃ m, m < c ∧ B m = true ∧ sp m = rs i := (h.2.2.2.2 (rs i)).mp ⟨i, hi, rfl⟩
theorem LOK_ly {w t : Nat} {pl : Nat → Nat} {c K : Nat} {B : Nat → Bool} {sp nw rs : Nat → Nat} (hL : LOK w t pl c sp) (h : CH c K B sp nw rs) {z : Nat} (hz : GZ K z) : LOK w t pl c (lyB B sp rs z) := by
  have hch : ∀ n, n < c → B n = true → ∃ m, m < c ∧ B m = true ∧ sp m = rs (dg z (fb_ct B n)) := fun n hn hB => h.of (hz.1 _ (h.2.2.1 n hn hB))
  refine ⟨fun n hn => ?_, fun a b ha hb e => ?_⟩
  · unfold lyB
    cases hB : B n with
    | false => rw [if_neg (by decide)]; exact hL.1 n hn
    | true =>
      rw [if_pos rfl]
      obtain ⟨m, m1, m2, m3⟩ := hch n hn hB
      rw [← m3]
      exact hL.1 m m1
  · unfold lyB at e
    cases hA : B a with
    | false =>
      rw [hA, if_neg (by decide)] at e
      cases hB : B b with
      | false => rw [hB, if_neg (by decide)] at e; exact hL.2 a b ha hb e
      | true =>
        rw [hB, if_pos rfl] at e
        obtain ⟨m, m1, m2, m3⟩ := hch b hb hB
        have := hL.2 a m ha m1 (e.trans m3.symm)
        rw [this, m2] at hA; cases hA
    | true =>
      rw [hA, if_pos rfl] at e
      cases hB : B b with
      | false =>
        rw [hB, if_neg (by decide)] at e
        obtain ⟨m, m1, m2, m3⟩ := hch a ha hA
        have := hL.2 m b m1 hb (m3.trans e)
        rw [← this, m2] at hB; cases hB
      | true =>
        rw [hB, if_pos rfl] at e
        have ka := h.2.2.1 a ha hA
        have kb := h.2.2.1 b hb hB
        exact fb_inj B hA hB (hz.2.2 _ _ ka kb (h.rs_inj (hz.1 _ ka) (hz.1 _ kb) e))
theorem OLD_sp {c K : Nat} {B : Nat → Bool} {sp nw rs : Nat → Nat} (h : CH c K B sp nw rs) : OLD c K B sp rs sp := by
  refine ⟨fun n _ _ => rfl, fun n hn hB => ?_⟩
  obtain ⟨i, h1, h2⟩ := (h.2.2.2.2 (sp n)).mpr ⟨n, hn, hB, rfl⟩
  exact ⟨i, h1, h2.symm⟩
theorem OLD_ly {c K : Nat} {B : Nat → Bool} {sp nw rs : Nat → Nat} (h : CH c K B sp nw rs) {z : Nat} (hz : GZ K z) : OLD c K B sp rs (lyB B sp rs z) := by
  refine ⟨fun n _ hB => ?_, fun n hn hB => ?_⟩
  · unfold lyB
    rw [hB, if_neg (by decide)]
  · refine ⟨_, hz.1 _ (h.2.2.1 n hn hB), ?_⟩
    unfold lyB
    rw [hB, if_pos rfl]
theorem GZ_ur {K r : Nat} (hK : K < 7) (hr : r < fct K) : GZ K (urZ K r) := by
  refine ⟨ur_dg K hK r hr, ur_sur K hK r hr, fun i j hi hj e => ?_⟩
  rcases Nat.lt_trichotomy i j with z | z | z
  · exact absurd e.symm (ur_inj K hK r hr j hj i z)
  · exact z
  · exact absurd e (ur_inj K hK r hr i hi j z)
/-- a laying in the midst of a row being laid -/
def lyM (B : Nat → Bool) (f rs : Nat → Nat) (z k n : Nat) : Nat := if B n = true ∧ fb_ct B n < k then rs (dg z (fb_ct B n)) else f n
theorem lyM_0 (B : Nat → Bool) (f rs : Nat → Nat) (z n : Nat) : lyM B f rs z 0 n = f n := by
  unfold lyM
  rw [if_neg (fun q => absurd q.2 (Nat.not_lt_zero _))]
theorem lyM_s {c K : Nat} {B : Nat → Bool} {sp nw rs : Nat → Nat} (h : CH c K B sp nw rs) (f : Nat → Nat) (z : Nat) {k : Nat} (hk : k < K) (n : Nat) : vf_upd (lyM B f rs z k) (nw k) (rs (dg z k)) n = lyM B f rs z (k + 1) n := by
  unfold vf_upd lyM
  by_cases e : n = nw k
  · have h1 := (h.nw_iff hk n).mp e
    rw [if_pos e, if_pos ⟨h1.1, by omega⟩, h1.2]
  · rw [if_neg e]
    by_cases h1 : B n = true ∧ fb_ct B n < k
    · rw [if_pos h1, if_pos ⟨h1.1, by omega⟩]
    · rw [if_neg h1, if_neg]
      intro q
      by_cases h2 : fb_ct B n = k
      · exact e ((h.nw_iff hk n).mpr ⟨q.1, h2⟩)
      · exact h1 ⟨q.1, by omega⟩
theorem lyM_K {c K : Nat} {B : Nat → Bool} {sp nw rs : Nat → Nat} (h : CH c K B sp nw rs) {f : Nat → Nat} (hf : OLD c K B sp rs f) (z : Nat) {n : Nat} (hn : n < c) : lyM B f rs z K n = lyB B sp rs z n := by
  unfold lyM lyB
  cases hB : B n with
  | false => rw [if_neg (fun q => by cases q.1), if_neg (by decide)]; exact hf.1 n hn hB
  | true => rw [if_pos ⟨rfl, h.2.2.1 n hn hB⟩, if_pos rfl]
/-- rows by place in the row -/
def rkF (sp nw : Nat → Nat) : Nat → (Nat → Nat)
  | 0 => fun _ => 0
  | k + 1 => insF (sp (nw k)) k (rkF sp nw k)
theorem rk_rw {B : Nat → Bool} {sp nw : Nat → Nat} : ∀ n, (∀ m, m < n → B m = true → nw (fb_ct B m) = m) → rwF B sp n = rkF sp nw (fb_ct B n)
  | 0, _ => rfl
  | n + 1, h => by
    unfold rwF
    rw [fb_ct_succ]
    have ih := rk_rw n (fun m hm hB => h m (by omega) hB) (sp := sp)
    cases hB : B n with
    | false => simp only [Bool.false_eq_true, if_false, Nat.add_zero]; exact ih
    | true =>
      simp only [if_true]
      show _ = insF (sp (nw (fb_ct B n))) (fb_ct B n) (rkF sp nw (fb_ct B n))
      rw [h n (by omega) hB, ih]
/-- which chosen name is the k-th -/
def nwS (B : Nat → Bool) (k : Nat) : Nat → Nat
  | 0 => 0
  | n + 1 => if B n = true ∧ fb_ct B n = k then n else nwS B k n
theorem nwS_is {B : Nat → Bool} {n : Nat} (hB : B n = true) : ∀ N, n < N → nwS B (fb_ct B n) N = n
  | 0, h => by cases h
  | N + 1, h => by
    unfold nwS
    by_cases e : B N = true ∧ fb_ct B N = fb_ct B n
    · rw [if_pos e]; exact fb_inj B e.1 hB e.2
    · rw [if_neg e]
      refine nwS_is hB N ?_
      rcases Nat.lt_or_ge n N with z | z
      · exact z
      · exact absurd ⟨by rw [show N = n by omega]; exact hB, by rw [show N = n by omega]⟩ e
def nwF (B : Nat → Bool) (k : Nat) : Nat := nwS B k 64
theorem nwF_is {B : Nat → Bool} {n : Nat} (hB : B n = true) (h : n < 64) : nwF B (fb_ct B n) = n := nwS_is hB 64 h
theorem CH_is {w t : Nat} {pl : Nat → Nat} {c : Nat} {B : Nat → Bool} {sp : Nat → Nat} (hL : LOK w t pl c sp) (hc : c ≤ 40) (hK : fb_ct B c ≤ 6) : CH c (fb_ct B c) B sp (nwF B) (rwF B sp c) := by
  obtain ⟨h1, h2⟩ := rw_ok (B := B) hL.2 c (Nat.le_refl _)
  refine ⟨hK, fun k hk => ?_, fun n hn hB => fb_lt B hn hB, h1, h2⟩
  obtain ⟨m, m1, m2, m3⟩ := fb_nth B c k hk
  rw [← m3, nwF_is m2 (by omega)]
  exact ⟨m1, m2, rfl⟩
