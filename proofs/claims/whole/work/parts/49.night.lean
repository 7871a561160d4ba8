/-! night -/
theorem nI_bits {n : Nat} (h : n < 2 ^ 31) : (nI n).toBitVec.toNat = n := by
  show (BitVec.ofNat 32 n).toNat = n
  rw [BitVec.toNat_ofNat]
  omega
theorem pigeon : ∀ (n : Nat) (f : Nat → Nat), (∀ k, k < n → f k < n) → (∀ a b, a < n → b < n → f a = f b → a = b) → ∀ v, v < n → ∃ k, k < n ∧ f k = v := by
  intro n
  induction n with
  | zero => intro f _ _ v hv; omega
  | succ n ih =>
    intro f h1 h2 v hv
    by_cases hp : ∃ p, p < n + 1 ∧ f p = n
    · obtain ⟨p, hp1, hp2⟩ := hp
      by_cases hvn : v = n
      · exact ⟨p, hp1, by omega⟩
      · obtain ⟨k, hk, hk2⟩ := ih (fun k => f (if k < p then k else k + 1)) (fun k hk => by
          have a1 : (if k < p then k else k + 1) < n + 1 := by split <;> omega
          have a2 := h1 _ a1
          have a3 : f (if k < p then k else k + 1) ≠ n := fun e => by
            have := h2 _ p a1 hp1 (by rw [e, hp2])
            split at this <;> omega
          show f (if k < p then k else k + 1) < n
          omega) (fun a b ha hb e => by
          have a1 : (if a < p then a else a + 1) < n + 1 := by split <;> omega
          have a2 : (if b < p then b else b + 1) < n + 1 := by split <;> omega
          have := h2 _ _ a1 a2 e
          split at this <;> split at this <;> omega) v (by omega)
        exact ⟨_, by split <;> omega, hk2⟩
    · have hlt : ∀ k, k < n + 1 → f k < n := fun k hk => by
        have := h1 k hk
        have : f k ≠ n := fun e => hp ⟨k, hk, e⟩
        omega
      obtain ⟨k, hk, hk2⟩ := ih f (fun k hk => hlt k (by omega)) (fun a b ha hb => h2 a b (by omega) (by omega)) (f n) (hlt n (by omega))
      have := h2 k n (by omega) (by omega) hk2
      omega
theorem JS_inj {j : Nat} {jd od : Nat → Nat} (h : JS j jd od) : ∀ a b, a < j → b < j → od a = od b → a = b := by
  intro a b ha hb e
  rcases Nat.lt_trichotomy a b with h1 | h1 | h1
  · have := h.2 a b h1 hb; rw [e] at this; omega
  · exact h1
  · have := h.2 b a h1 ha; rw [e] at this; omega
theorem JS_sur {j : Nat} {jd od : Nat → Nat} (h : JS j jd od) {v : Nat} (hv : v < j) : ∃ k, k < j ∧ od k = v := pigeon j od h.1 (JS_inj h) v hv
/-- a set of jobs in the order of their dues: what it takes, if it can be done -/
def tdF (od jt jd : Nat → Nat) (s : Nat) : Nat → Nat → Nat → Option Nat
  | 0, _, u => some u
  | r + 1, i, u => if s.testBit (od i) then (if u + jt (od i) ≤ jd (od i) then tdF od jt jd s r (i + 1) (u + jt (od i)) else none) else tdF od jt jd s r (i + 1) u
def tv : Option Nat → Int32
  | none => -1
  | some t => nI t
theorem tdF_le {od jt jd : Nat → Nat} {s j : Nat} (hj : ∀ k, k < j → jt (od k) ≤ 9999) : ∀ r i u t, i + r ≤ j → tdF od jt jd s r i u = some t → t ≤ u + 9999 * r
  | 0, i, u, t, h1, h2 => by
    have : u = t := by
      unfold tdF at h2
      exact Option.some.inj h2
    omega
  | r + 1, i, u, t, h1, h2 => by
    unfold tdF at h2
    have h3 := hj i (by omega)
    by_cases h4 : s.testBit (od i) = true
    · rw [if_pos h4] at h2
      by_cases h5 : u + jt (od i) ≤ jd (od i)
      · rw [if_pos h5] at h2
        have := tdF_le hj r (i + 1) _ t (by omega) h2
        omega
      · rw [if_neg h5] at h2; cases h2
    · rw [if_neg h4] at h2
      have := tdF_le hj r (i + 1) _ t (by omega) h2
      omega
theorem bit_is {s k : Nat} (hs : s < 2 ^ 31) (hk : k < 32) : (nI s >>> (nI k &&& 31)) &&& 1 = nI (if s.testBit k then 1 else 0) := by
  rw [and_lo hk, nI_bits hs]
theorem bit_0 {s k : Nat} (hs : s < 2 ^ 31) (hk : k < 32) : ((nI s >>> (nI k &&& 31)) &&& 1 = 0) ↔ s.testBit k = false := by
  rw [bit_is hs hk]
  cases s.testBit k <;> decide
theorem bit_1 {s k : Nat} (hs : s < 2 ^ 31) (hk : k < 32) : ((nI s >>> (nI k &&& 31)) &&& 1 = 1) ↔ s.testBit k = true := by
  rw [bit_is hs hk]
  cases s.testBit k <;> decide
theorem x_done4 {j s : Nat} {jt jd od : Nat → Nat} {σ : St} (hJ : JOK j jt jd) (hs : s < 256) (h32 : σ.1 32 = nI j) (h57 : ∀ k, k < j → σ.2.1 57 k = nI (jt k) ∧ σ.2.1 58 k = nI (jd k)) (h59 : ∀ k, k < j → σ.2.1 59 k = nI (od k) ∧ od k < j) : ∀ (n i u : Nat), i ≤ j → j < n + i → u ≤ 9999 * i → F_xX4_timeIfDone_4 n (nI s) (nI u) (nI i) σ = some (tv (tdF od jt jd s (j - i) i u), σ) := by
  have hj8 := hJ.1
  intro n
  induction n with
  | zero => intro i u h1 h2 _; omega
  | succ n ih =>
    intro i u h1 h2 hu
    rw [F_xX4_timeIfDone_4, h32]
    by_cases h3 : j ≤ i
    · rw [if_pos (nI_le h3 (by omega)), show j - i = 0 by omega]
      rfl
    · have ho := h59 i (by omega)
      have hb := hJ.2 _ ho.2
      have h5 := h57 _ ho.2
      rw [if_neg (nI_ge (by omega) (by omega)), if_neg (show ¬ (8 : Int32) ≤ nI i from nI_ge (a := i) (b := 8) (by omega) (by omega)), if_pos (ib_nI (by omega) (by omega)), nI_clamp (by omega), ho.1, show j - i = (j - (i + 1)) + 1 by omega, tdF, nI_clamp (n := od i) (by omega), h5.1, h5.2, nI_add, ← nI_succ]
      by_cases h4 : s.testBit (od i) = true
      · rw [if_neg (fun z => by rw [bit_0 (by omega) (by omega), h4] at z; cases z), if_pos h4, if_pos (ib_nI (by omega) (by omega))]
        by_cases h6 : u + jt (od i) ≤ jd (od i)
        · rw [if_pos (nI_le h6 (by omega)), if_pos h6]
          exact ih (i + 1) _ (by omega) (by omega) (by omega)
        · rw [if_neg (nI_ge (by omega) (by omega)), if_neg h6]
          rfl
      · rw [if_pos ((bit_0 (by omega) (by omega)).mpr (by simpa using h4)), if_neg h4]
        exact ih (i + 1) _ (by omega) (by omega) (by omega)
/-- the first of those that are left -/
def fsF (P : Nat → Bool) (jd : Nat → Nat) : Nat → Option Nat
  | 0 => none
  | k + 1 => if P k then (match fsF P jd k with | none => some k | some a => if jd a ≤ jd k then some a else some k) else fsF P jd k
theorem fsF_none {P : Nat → Bool} {jd : Nat → Nat} : ∀ k, fsF P jd k = none → ∀ b, b < k → P b = false
  | 0, _, b, hb => by omega
  | k + 1, h, b, hb => by
    unfold fsF at h
    cases hP : P k with
    | true =>
      rw [hP, if_pos rfl] at h
      cases hf : fsF P jd k with
      | none => rw [hf] at h; cases h
      | some a =>
        rw [hf] at h
        by_cases h2 : jd a ≤ jd k
        · simp only [if_pos h2] at h; cases h
        · simp only [if_neg h2] at h; cases h
    | false =>
      rw [hP, if_neg (by decide)] at h
      by_cases e : b = k
      · rw [e]; exact hP
      · exact fsF_none k h b (by omega)
theorem fsF_some {P : Nat → Bool} {jd : Nat → Nat} : ∀ k a, fsF P jd k = some a → a < k ∧ P a = true ∧ ∀ b, b < k → P b = true → b ≠ a → jd a < jd b ∨ (jd a = jd b ∧ a < b)
  | 0, a, h => by cases h
  | k + 1, a, h => by
    unfold fsF at h
    cases hP : P k with
    | true =>
      rw [hP, if_pos rfl] at h
      cases hf : fsF P jd k with
      | none =>
        rw [hf] at h
        have e : k = a := Option.some.inj h
        subst e
        exact ⟨by omega, hP, fun b hb hb2 hne => by
          have := fsF_none k hf b (by omega)
          rw [this] at hb2; cases hb2⟩
      | some c =>
        rw [hf] at h
        obtain ⟨i1, i2, i3⟩ := fsF_some k c hf
        by_cases h2 : jd c ≤ jd k
        · simp only [if_pos h2] at h
          have e : c = a := Option.some.inj h
          subst e
          exact ⟨by omega, i2, fun b hb hb2 hne => by
            by_cases e : b = k
            · subst e; omega
            · exact i3 b (by omega) hb2 hne⟩
        · simp only [if_neg h2] at h
          have e : k = a := Option.some.inj h
          subst e
          exact ⟨by omega, hP, fun b hb hb2 hne => by
            by_cases e : b = c
            · subst e; omega
            · have := i3 b (by omega) hb2 e; omega⟩
    | false =>
      rw [hP, if_neg (by decide)] at h
      obtain ⟨i1, i2, i3⟩ := fsF_some k a h
      exact ⟨by omega, i2, fun b hb hb2 hne => by
        by_cases e : b = k
        · rw [e, hP] at hb2; cases hb2
        · exact i3 b (by omega) hb2 hne⟩
def ov : Option Nat → Int32
  | none => -1
  | some t => nI t
theorem m_of15 {j s D u : Nat} {jt jd : Nat → Nat} {τ : St} (b4 : Int32 → Int32 → Int32 → St → Option (Int32 × St)) (hJ : JOK j jt jd) (hs : s < 256) (hD : D < 256) (h25 : τ.1 25 = nI j) (h31 : ∀ k, k < j → τ.2.1 31 k = nI (jt k) ∧ τ.2.1 32 k = nI (jd k)) {a : Nat} (ha : fsF (fun b => s.testBit b && !D.testBit b) jd j = some a) : ∀ (n k : Nat), k ≤ j → j < n + k → F_mX11_timeOf_15 b4 n (nI s) (nI u) (nI D) (ov (fsF (fun b => s.testBit b && !D.testBit b) jd k)) (nI k) τ = (if nI u + nI (jt a) ≤ nI (jd a) then b4 (nI s) (nI u + nI (jt a)) (nI D ||| (1 <<< (nI a &&& 31))) τ else some (-1, τ)) := by
  have hj8 := hJ.1
  intro n
  induction n with
  | zero => intro k h1 h2; omega
  | succ n ih =>
    intro k h1 h2
    rw [F_mX11_timeOf_15, h25]
    by_cases h3 : j ≤ k
    · have e : k = j := by omega
      obtain ⟨a1, -, -⟩ := fsF_some j a ha
      rw [if_pos (nI_le h3 (by omega)), e, ha, show ov (some a) = nI a from rfl, if_pos (ib_nI (by omega) (by omega)), nI_clamp (by omega), (h31 a a1).1, (h31 a a1).2]
    · rw [if_neg (nI_ge (by omega) (by omega)), ← nI_succ]
      have ih' := ih (k + 1) (by omega) (by omega)
      unfold fsF at ih'
      by_cases hb : s.testBit k = true
      · rw [if_pos ((bit_1 (by omega) (by omega)).mpr hb)]
        by_cases hb2 : D.testBit k = true
        · rw [if_neg (fun z => by rw [bit_0 (by omega) (by omega), hb2] at z; cases z)]
          rw [hb, hb2, if_neg (by decide)] at ih'
          exact ih'
        · have hb2 : D.testBit k = false := by simpa using hb2
          rw [if_pos ((bit_0 (by omega) (by omega)).mpr hb2)]
          rw [hb, hb2, if_pos (by decide)] at ih'
          cases hf : fsF (fun b => s.testBit b && !D.testBit b) jd k with
          | none =>
            rw [hf] at ih'
            rw [show ov none = -1 from rfl, if_pos rfl]
            exact ih'
          | some c =>
            rw [hf] at ih'
            obtain ⟨c1, -, -⟩ := fsF_some k c hf
            have jc := hJ.2 c (by omega)
            have jk := hJ.2 k (by omega)
            rw [show ov (some c) = nI c from rfl, if_neg (fun z => by rw [i_eq, nI_toInt (by omega), show (-1 : Int32).toInt = -1 from rfl] at z; omega), if_pos (ib_nI (by omega) (by omega)), if_pos (ib_nI (by omega) (by omega)), nI_clamp (n := c) (by omega), nI_clamp (n := k) (by omega), (h31 c (by omega)).2, (h31 k (by omega)).2]
            by_cases h5 : jd c ≤ jd k
            · rw [if_pos (nI_le h5 (by omega))]
              simp only [if_pos h5] at ih'
              exact ih'
            · rw [if_neg (nI_ge (by omega) (by omega))]
              simp only [if_neg h5] at ih'
              exact ih'
      · have hb' : s.testBit k = false := by simpa using hb
        rw [if_neg (fun z => by rw [bit_1 (by omega) (by omega), hb'] at z; cases z)]
        rw [hb', if_neg (by simp)] at ih'
        exact ih'
theorem or_is : ∀ a, a < 8 → ∀ D, D < 256 → (nI D ||| ((1 : Int32) <<< (nI a &&& 31))) = nI (D ||| 2 ^ a) := by decide +kernel
theorem or_lt {a D : Nat} (ha : a < 8) (hD : D < 256) : D ||| 2 ^ a < 256 := Nat.or_lt_two_pow (n := 8) hD (Nat.pow_lt_pow_right (by omega) ha)
theorem m_of4 {j s : Nat} {jt jd od : Nat → Nat} {τ : St} (hJ : JOK j jt jd) (hS : JS j jd od) (hs : s < 2 ^ j) (hs2 : s < 256) (h25 : τ.1 25 = nI j) (h31 : ∀ k, k < j → τ.2.1 31 k = nI (jt k) ∧ τ.2.1 32 k = nI (jd k)) : ∀ (r i u D n : Nat), i + r = j → r < n → D < 256 → (∀ b, D.testBit b = true ↔ s.testBit b = true ∧ ∃ k, k < i ∧ od k = b) → u ≤ 9999 * i → F_mX11_timeOf_4 n (nI s) (nI u) (nI D) τ = some (tv (tdF od jt jd s r i u), τ) := by
  have hj8 := hJ.1
  intro r
  induction r with
  | zero =>
    intro i u D n h1 h2 hD hI hu
    obtain ⟨n, rfl⟩ : ∃ m, n = m + 1 := ⟨n - 1, by omega⟩
    have e : D = s := by
      apply Nat.eq_of_testBit_eq
      intro b
      have := hI b
      cases hb : s.testBit b with
      | false =>
        rw [hb] at this
        cases hb2 : D.testBit b with
        | false => rfl
        | true => exact absurd (this.mp hb2).1 (by decide)
      | true =>
        have hbj : b < j := by
          apply Decidable.byContradiction
          intro hn
          have : s < 2 ^ b := Nat.lt_of_lt_of_le hs (Nat.pow_le_pow_right (by omega) (by omega))
          rw [Nat.testBit_lt_two_pow this] at hb
          cases hb
        obtain ⟨k, hk, hk2⟩ := JS_sur hS hbj
        exact this.mpr ⟨hb, k, by omega, hk2⟩
    rw [F_mX11_timeOf_4, e, if_pos rfl]
    rfl
  | succ r ih =>
    intro i u D n h1 h2 hD hI hu
    have hoi := hS.1 i (by omega)
    rw [tdF]
    cases hb : s.testBit (od i) with
    | false =>
      rw [if_neg (by decide)]
      refine ih (i + 1) u D n (by omega) (by omega) hD (fun b => ?_) (by omega)
      rw [hI b]
      constructor
      · rintro ⟨z1, k, z2, z3⟩
        exact ⟨z1, k, by omega, z3⟩
      · rintro ⟨z1, k, z2, z3⟩
        refine ⟨z1, k, ?_, z3⟩
        by_cases e : k = i
        · rw [← z3, e, hb] at z1; cases z1
        · omega
    | true =>
      rw [if_pos rfl]
      obtain ⟨n, rfl⟩ : ∃ m, n = m + 1 := ⟨n - 1, by omega⟩
      have hDo : D.testBit (od i) = false := by
        cases hz : D.testBit (od i) with
        | false => rfl
        | true =>
          obtain ⟨-, k, hk, hk2⟩ := (hI _).mp hz
          have := JS_inj hS k i (by omega) (by omega) hk2
          omega
      have hne : ¬ D = s := fun e => by rw [e, hb] at hDo; cases hDo
      have hf : fsF (fun b => s.testBit b && !D.testBit b) jd j = some (od i) := by
        cases hf : fsF (fun b => s.testBit b && !D.testBit b) jd j with
        | none =>
          have := fsF_none j hf (od i) hoi
          simp only [hb, hDo] at this
          cases this
        | some a =>
          obtain ⟨a1, a2, a3⟩ := fsF_some j a hf
          simp only [Bool.and_eq_true, Bool.not_eq_true'] at a2
          by_cases e : a = od i
          · rw [e]
          · exfalso
            have h3 := a3 (od i) hoi (by simp only [hb, hDo]; rfl) (fun z => e z.symm)
            obtain ⟨k, hk, hk2⟩ := JS_sur hS a1
            have hki : i ≤ k := by
              apply Decidable.byContradiction
              intro hn
              have := (hI a).mpr ⟨a2.1, k, by omega, hk2⟩
              rw [a2.2] at this; cases this
            have hki2 : i ≠ k := fun z => e (by rw [← hk2, z])
            have h4 := hS.2 i k (by omega) hk
            rw [hk2] at h4
            omega
      rw [F_mX11_timeOf_4, if_neg (fun z => hne ((nI_eq (by omega) (by omega)).mp z)), show (-1 : Int32) = ov (fsF (fun b => s.testBit b && !D.testBit b) jd 0) from rfl, show (0 : Int32) = nI 0 from rfl, m_of15 (F_mX11_timeOf_4 n) hJ hs2 hD h25 h31 hf FU 0 (by omega) (by rw [FU_is]; omega), nI_add]
      have jb := hJ.2 _ hoi
      by_cases h5 : u + jt (od i) ≤ jd (od i)
      · rw [if_pos (nI_le h5 (by omega)), if_pos h5, or_is _ (by omega) _ hD]
        refine ih (i + 1) _ _ n (by omega) (by omega) (or_lt (by omega) hD) (fun b => ?_) (by omega)
        rw [Nat.testBit_or, Nat.testBit_two_pow, Bool.or_eq_true, decide_eq_true_eq, hI b]
        constructor
        · rintro (⟨z1, k, z2, z3⟩ | z)
          · exact ⟨z1, k, by omega, z3⟩
          · exact ⟨by rw [← z]; exact hb, i, by omega, z⟩
        · rintro ⟨z1, k, z2, z3⟩
          by_cases e : k = i
          · right; rw [← e, z3]
          · left; exact ⟨z1, k, by omega, z3⟩
      · rw [if_neg (nI_ge (by omega) (by omega)), if_neg h5]
        rfl
theorem m_timeOf {j s : Nat} {jt jd od : Nat → Nat} {τ : St} (hJ : JOK j jt jd) (hS : JS j jd od) (hs : s < 2 ^ j) (h25 : τ.1 25 = nI j) (h31 : ∀ k, k < j → τ.2.1 31 k = nI (jt k) ∧ τ.2.1 32 k = nI (jd k)) : F_mX11_timeOf (nI s) τ = some (tv (tdF od jt jd s j 0 0), τ) := by
  have hj8 := hJ.1
  have hs2 : s < 256 := Nat.lt_of_lt_of_le hs (Nat.pow_le_pow_right (n := 2) (j := 8) (by omega) hj8)
  unfold F_mX11_timeOf
  exact m_of4 hJ hS hs hs2 h25 h31 j 0 0 0 FU (by omega) (by rw [FU_is]; omega) (by omega) (fun b => by
    rw [Nat.zero_testBit]
    constructor
    · intro z; cases z
    · rintro ⟨-, k, hk, -⟩; omega) (by omega)
theorem JS_ex {jd : Nat → Nat} : ∀ j, j ≤ 8 → (∀ k, k < j → jd k ≤ 99999) → ∃ od, JS j jd od
  | 0, _, _ => ⟨fun _ => 0, fun k hk => by omega, fun a b _ hb => by omega⟩
  | j + 1, h, hd => by
    obtain ⟨od, hS⟩ := JS_ex j (by omega) (fun k hk => hd k (by omega))
    obtain ⟨f, od', -, -, b3⟩ := x_app44 (d := jd j) hS (by omega) (hd j (by omega)) (fun k hk => hd k (by omega)) 10 j ((fun _ => nI j), (fun a k => if a = 58 then nI (jd k) else nI (od k)), (fun _ => 0), fun _ _ => 0) (Nat.le_refl _) (by omega) rfl (fun k _ => rfl) (fun k _ => rfl) (fun k _ _ => by omega) (fun k _ _ => by omega)
    rw [vf_self] at b3
    exact ⟨od', b3⟩
theorem tv_inj {a b : Option Nat} (ha : ∀ t, a = some t → t < 2 ^ 31) (hb : ∀ t, b = some t → t < 2 ^ 31) (h : tv a = tv b) : a = b := by
  cases a with
  | none =>
    cases b with
    | none => rfl
    | some t =>
      have := hb t rfl
      exfalso
      have h2 : (-1 : Int32) = nI t := h
      rw [i_eq, nI_toInt (by omega), show (-1 : Int32).toInt = -1 from rfl] at h2
      omega
  | some s =>
    have hs := ha s rfl
    cases b with
    | none =>
      exfalso
      have h2 : nI s = (-1 : Int32) := h
      rw [i_eq, nI_toInt (by omega), show (-1 : Int32).toInt = -1 from rfl] at h2
      omega
    | some t =>
      have ht := hb t rfl
      rw [(nI_eq hs ht).mp h]
theorem td_same {j s : Nat} {jt jd od od' : Nat → Nat} (hJ : JOK j jt jd) (hS : JS j jd od) (hS' : JS j jd od') (hs : s < 2 ^ j) : tdF od' jt jd s j 0 0 = tdF od jt jd s j 0 0 := by
  have hj8 := hJ.1
  have h1 := m_timeOf (τ := ((fun _ => nI j), (fun a k => if a = 31 then nI (jt k) else nI (jd k)), (fun _ => 0), fun _ _ => 0)) hJ hS hs rfl (fun k _ => ⟨rfl, rfl⟩)
  have h2 := m_timeOf (τ := ((fun _ => nI j), (fun a k => if a = 31 then nI (jt k) else nI (jd k)), (fun _ => 0), fun _ _ => 0)) hJ hS' hs rfl (fun k _ => ⟨rfl, rfl⟩)
  rw [h1] at h2
  have h3 : tv (tdF od jt jd s j 0 0) = tv (tdF od' jt jd s j 0 0) := (Prod.mk.inj (Option.some.inj h2)).1
  exact (tv_inj (fun t ht => by
    have := tdF_le (fun k hk => (hJ.2 _ (hS.1 k hk)).2.1) j 0 0 t (by omega) ht
    omega) (fun t ht => by
    have := tdF_le (fun k hk => (hJ.2 _ (hS'.1 k hk)).2.1) j 0 0 t (by omega) ht
    omega) h3).symm
def ntT (T : Nat → Option Nat) (N : Nat → Nat) (s : Nat) (z : Nat × Nat × Nat) : Nat × Nat × Nat := match T s with
  | none => z
  | some t => if z.2.1 < N s ∨ (N s = z.2.1 ∧ t < z.2.2) then (s, N s, t) else z
def ntS (T : Nat → Option Nat) (N : Nat → Nat) : Nat → Nat × Nat × Nat
  | 0 => (0, 0, 0)
  | k + 1 => ntT T N (k + 1) (ntS T N k)
theorem ntS_le {T : Nat → Option Nat} {N : Nat → Nat} (hN : ∀ s, N s ≤ 8) {E : Nat} (hT : ∀ s t, s < E → T s = some t → t ≤ 80000) : ∀ k, k < E → (ntS T N k).1 ≤ k ∧ (ntS T N k).2.1 ≤ 8 ∧ (ntS T N k).2.2 ≤ 80000
  | 0, _ => ⟨Nat.le_refl _, Nat.zero_le _, Nat.zero_le _⟩
  | k + 1, hk => by
    obtain ⟨h1, h2, h3⟩ := ntS_le hN hT k (by omega)
    unfold ntS ntT
    cases ht : T (k + 1) with
    | none => exact ⟨Nat.le_trans h1 (by omega), h2, h3⟩
    | some t =>
      by_cases hc : (ntS T N k).2.1 < N (k + 1) ∨ (N (k + 1) = (ntS T N k).2.1 ∧ t < (ntS T N k).2.2)
      · simp only [if_pos hc]
        exact ⟨Nat.le_refl _, hN _, hT _ _ hk ht⟩
      · simp only [if_neg hc]
        exact ⟨by omega, h2, h3⟩
def nbF (j s : Nat) : Nat := fb_ct (fun k => s.testBit k) j
theorem pop_nb {j s : Nat} (hj : j ≤ 8) (hs : s < 2 ^ j) : pop (nI s) = nbF j s := by
  have hs2 : s < 256 := Nat.lt_of_lt_of_le hs (Nat.pow_le_pow_right (n := 2) (j := 8) (by omega) hj)
  unfold pop nbF
  rw [nI_bits (by omega), show 32 = j + (32 - j) by omega, fb_ct_split]
  have h0 : ∀ n, fb_ct (fun k => s.testBit (j + k)) n = 0 := by
    intro n
    induction n with
    | zero => rfl
    | succ n ih =>
      rw [fb_ct_succ, ih, Nat.testBit_lt_two_pow (Nat.lt_of_lt_of_le hs (Nat.pow_le_pow_right (by omega) (by omega)))]
      rfl
  rw [h0]
  rfl
theorem x_set22 {j : Nat} {jt jd od : Nat → Nat} {σ : St} {T : Nat → Option Nat} (hJ : JOK j jt jd) (hT : ∀ s, s < 2 ^ j → F_xX4_timeIfDone (nI s) σ = some (tv (T s), σ)) (hT2 : ∀ s t, s < 2 ^ j → T s = some t → t ≤ 80000) : ∀ (n k : Nat), k < 2 ^ j → 2 ^ j ≤ n + k → F_xX4_bestSet_22 n (nI (ntS T (nbF j) k).1) (nI (ntS T (nbF j) k).2.1) (nI (ntS T (nbF j) k).2.2) (nI (2 ^ j)) (nI (k + 1)) σ = some (nI (ntS T (nbF j) (2 ^ j - 1)).1, σ) := by
  have hj8 := hJ.1
  have hE : 2 ^ j ≤ 256 := Nat.pow_le_pow_right (n := 2) (j := 8) (by omega) hj8
  have hN : ∀ s, nbF j s ≤ 8 := fun s => Nat.le_trans (fb_ct_le _ _) hj8
  intro n
  induction n with
  | zero => intro k h1 h2; omega
  | succ n ih =>
    intro k h1 h2
    rw [F_xX4_bestSet_22]
    by_cases h3 : 2 ^ j ≤ k + 1
    · rw [if_pos (nI_le h3 (by omega)), show k = 2 ^ j - 1 by omega]
    · obtain ⟨b1, b2, b3⟩ := ntS_le hN hT2 k h1
      have hNk := hN (k + 1)
      rw [if_neg (nI_ge (by omega) (by omega)), bc_is, bd_is, pop_nb hj8 (by omega)]
      have ih' := ih (k + 1) (by omega) (by omega)
      rw [show ntS T (nbF j) (k + 1) = ntT T (nbF j) (k + 1) (ntS T (nbF j) k) from rfl] at ih'
      unfold ntT at ih'
      have hr : ∀ y, F_xX4_bestSet_52 (F_xX4_bestSet_22 n) (nI (ntS T (nbF j) k).1) (nI (ntS T (nbF j) k).2.1) (nI (ntS T (nbF j) k).2.2) (nI (2 ^ j)) (nI (k + 1)) (nI (nbF j (k + 1))) y σ = (if y = -1 then F_xX4_bestSet_22 n (nI (ntS T (nbF j) k).1) (nI (ntS T (nbF j) k).2.1) (nI (ntS T (nbF j) k).2.2) (nI (2 ^ j)) (nI (k + 1 + 1)) σ else if nI (ntS T (nbF j) k).2.1 < nI (nbF j (k + 1)) then F_xX4_bestSet_22 n (nI (k + 1)) (nI (nbF j (k + 1))) y (nI (2 ^ j)) (nI (k + 1 + 1)) σ else if nI (ntS T (nbF j) k).2.2 ≤ y then F_xX4_bestSet_22 n (nI (ntS T (nbF j) k).1) (nI (ntS T (nbF j) k).2.1) (nI (ntS T (nbF j) k).2.2) (nI (2 ^ j)) (nI (k + 1 + 1)) σ else F_xX4_bestSet_22 n (nI (k + 1)) (nI (nbF j (k + 1))) y (nI (2 ^ j)) (nI (k + 1 + 1)) σ) := by
        intro y
        unfold F_xX4_bestSet_52
        rw [← nI_succ]
      by_cases h4 : (ntS T (nbF j) k).2.1 ≤ nbF j (k + 1)
      · rw [if_pos (nI_le h4 (by omega)), hT _ (by omega), bd_is, hr]
        cases ht : T (k + 1) with
        | none =>
          rw [ht] at ih'
          rw [show tv none = -1 from rfl, if_pos rfl]
          exact ih'
        | some t =>
          rw [ht] at ih'
          have h5 := hT2 _ t (by omega) ht
          rw [show tv (some t) = nI t from rfl, if_neg (fun z => by rw [i_eq, nI_toInt (by omega), show (-1 : Int32).toInt = -1 from rfl] at z; omega)]
          by_cases h6 : (ntS T (nbF j) k).2.1 < nbF j (k + 1)
          · rw [if_pos (nI_lt h6 (by omega))]
            simp only [if_pos (Or.inl h6 : (ntS T (nbF j) k).2.1 < nbF j (k + 1) ∨ (nbF j (k + 1) = (ntS T (nbF j) k).2.1 ∧ t < (ntS T (nbF j) k).2.2))] at ih'
            exact ih'
          · rw [if_neg (fun z => h6 ((nI_ltI (by omega) (by omega)).mp z))]
            by_cases h7 : (ntS T (nbF j) k).2.2 ≤ t
            · rw [if_pos (nI_le h7 (by omega))]
              simp only [if_neg (show ¬ ((ntS T (nbF j) k).2.1 < nbF j (k + 1) ∨ (nbF j (k + 1) = (ntS T (nbF j) k).2.1 ∧ t < (ntS T (nbF j) k).2.2)) by omega)] at ih'
              exact ih'
            · rw [if_neg (nI_ge (by omega) (by omega))]
              simp only [if_pos (show ((ntS T (nbF j) k).2.1 < nbF j (k + 1) ∨ (nbF j (k + 1) = (ntS T (nbF j) k).2.1 ∧ t < (ntS T (nbF j) k).2.2)) by omega)] at ih'
              exact ih'
      · rw [if_neg (nI_ge (by omega) (by omega)), hr, if_pos rfl]
        cases ht : T (k + 1) with
        | none => rw [ht] at ih'; exact ih'
        | some t =>
          rw [ht] at ih'
          simp only [if_neg (show ¬ ((ntS T (nbF j) k).2.1 < nbF j (k + 1) ∨ (nbF j (k + 1) = (ntS T (nbF j) k).2.1 ∧ t < (ntS T (nbF j) k).2.2)) by omega)] at ih'
          exact ih'
theorem m_n34 {j s : Nat} {b9 : Int32 → Int32 → Int32 → Int32 → St → Option (Int32 × St)} {x1 x2 x3 x5 : Int32} {τ : St} (hj : j ≤ 8) (hs : s < 256) (h25 : τ.1 25 = nI j) : ∀ (n k : Nat), k ≤ j → j < n + k → F_mX11_night_34 b9 n x1 x2 x3 (nI s) x5 (nI (nbF k s)) (nI k) τ = (if x5 = (-1) then (b9 x1 x2 x3 (nI (s + 1)) τ) else (if nI (nbF j s) < x2 then (b9 x1 x2 x3 (nI (s + 1)) τ) else (if nI (nbF j s) = x2 then (if x5 < x3 then (b9 (nI s) (nI (nbF j s)) x5 (nI (s + 1)) τ) else (b9 x1 x2 x3 (nI (s + 1)) τ)) else (b9 (nI s) (nI (nbF j s)) x5 (nI (s + 1)) τ)))) := by
  intro n
  induction n with
  | zero => intro k h1 h2; omega
  | succ n ih =>
    intro k h1 h2
    rw [F_mX11_night_34, h25]
    by_cases h3 : j ≤ k
    · rw [if_pos (nI_le h3 (by omega)), show k = j by omega, ← nI_succ]
    · rw [if_neg (nI_ge (by omega) (by omega)), bit_is (by omega) (by omega), nI_add, ← nI_succ]
      exact ih (k + 1) (by omega) (by omega)
theorem m_set9 {j : Nat} {jt jd : Nat → Nat} {τ : St} {T : Nat → Option Nat} (hJ : JOK j jt jd) (h25 : τ.1 25 = nI j) (hT : ∀ s, s < 2 ^ j → F_mX11_timeOf (nI s) τ = some (tv (T s), τ)) (hT2 : ∀ s t, s < 2 ^ j → T s = some t → t ≤ 80000) : ∀ (n k : Nat), k < 2 ^ j → 2 ^ j ≤ n + k → F_mX11_night_9 n (nI (ntS T (nbF j) k).1) (nI (ntS T (nbF j) k).2.1) (nI (ntS T (nbF j) k).2.2) (nI (k + 1)) τ = some (nI (ntS T (nbF j) (2 ^ j - 1)).1, τ) := by
  have hj8 := hJ.1
  have hE : 2 ^ j ≤ 256 := Nat.pow_le_pow_right (n := 2) (j := 8) (by omega) hj8
  have hN : ∀ s, nbF j s ≤ 8 := fun s => Nat.le_trans (fb_ct_le _ _) hj8
  have hsh : (1 : Int32) <<< (nI j &&& 31) = nI (2 ^ j) := by
    have : ∀ j, j < 9 → (1 : Int32) <<< (nI j &&& 31) = nI (2 ^ j) := by decide
    exact this j (by omega)
  intro n
  induction n with
  | zero => intro k h1 h2; omega
  | succ n ih =>
    intro k h1 h2
    rw [F_mX11_night_9, h25, hsh]
    by_cases h3 : 2 ^ j ≤ k + 1
    · rw [if_pos (nI_le h3 (by omega)), show k = 2 ^ j - 1 by omega]
    · obtain ⟨b1, b2, b3⟩ := ntS_le hN hT2 k h1
      have hNk := hN (k + 1)
      rw [if_neg (nI_ge (by omega) (by omega)), hT _ (by omega), bd_is, show F_mX11_night_34 (F_mX11_night_9 n) FU (nI (ntS T (nbF j) k).1) (nI (ntS T (nbF j) k).2.1) (nI (ntS T (nbF j) k).2.2) (nI (k + 1)) (tv (T (k + 1))) 0 0 τ = _ from m_n34 (s := k + 1) hj8 (by omega) h25 FU 0 (by omega) (by rw [FU_is]; omega)]
      have ih' := ih (k + 1) (by omega) (by omega)
      rw [show ntS T (nbF j) (k + 1) = ntT T (nbF j) (k + 1) (ntS T (nbF j) k) from rfl] at ih'
      unfold ntT at ih'
      cases ht : T (k + 1) with
      | none =>
        rw [ht] at ih'
        rw [show tv none = -1 from rfl, if_pos rfl]
        exact ih'
      | some t =>
        rw [ht] at ih'
        have h5 := hT2 _ t (by omega) ht
        rw [show tv (some t) = nI t from rfl, if_neg (fun z => by rw [i_eq, nI_toInt (by omega), show (-1 : Int32).toInt = -1 from rfl] at z; omega)]
        by_cases h6 : nbF j (k + 1) < (ntS T (nbF j) k).2.1
        · rw [if_pos (nI_lt h6 (by omega))]
          simp only [if_neg (show ¬ ((ntS T (nbF j) k).2.1 < nbF j (k + 1) ∨ (nbF j (k + 1) = (ntS T (nbF j) k).2.1 ∧ t < (ntS T (nbF j) k).2.2)) by omega)] at ih'
          exact ih'
        · rw [if_neg (fun z => h6 ((nI_ltI (by omega) (by omega)).mp z))]
          by_cases h7 : nbF j (k + 1) = (ntS T (nbF j) k).2.1
          · rw [if_pos (by rw [h7])]
            by_cases h8 : t < (ntS T (nbF j) k).2.2
            · rw [if_pos (nI_lt h8 (by omega))]
              simp only [if_pos (show ((ntS T (nbF j) k).2.1 < nbF j (k + 1) ∨ (nbF j (k + 1) = (ntS T (nbF j) k).2.1 ∧ t < (ntS T (nbF j) k).2.2)) by omega)] at ih'
              exact ih'
            · rw [if_neg (fun z => h8 ((nI_ltI (by omega) (by omega)).mp z))]
              simp only [if_neg (show ¬ ((ntS T (nbF j) k).2.1 < nbF j (k + 1) ∨ (nbF j (k + 1) = (ntS T (nbF j) k).2.1 ∧ t < (ntS T (nbF j) k).2.2)) by omega)] at ih'
              exact ih'
          · rw [if_neg (fun z => h7 ((nI_eq (by omega) (by omega)).mp z))]
            simp only [if_pos (show ((ntS T (nbF j) k).2.1 < nbF j (k + 1) ∨ (nbF j (k + 1) = (ntS T (nbF j) k).2.1 ∧ t < (ntS T (nbF j) k).2.2)) by omega)] at ih'
            exact ih'
theorem api_night : API F_xX10_night F_mX11_night := by
  intro q hq
  have hJ := hq.2.2.2.2.2.2.1
  have hj8 := hJ.1
  have hE : 2 ^ q.1 5 ≤ 256 := Nat.pow_le_pow_right (n := 2) (j := 8) (by omega) hj8
  have hE0 : 0 < 2 ^ q.1 5 := Nat.two_pow_pos _
  obtain ⟨od, hS⟩ := JS_ex (jd := q.2.1 4) (q.1 5) hj8 (fun k hk => (hJ.2 k hk).2.2.2)
  have hT2 : ∀ s t, s < 2 ^ q.1 5 → tdF od (q.2.1 3) (q.2.1 4) s (q.1 5) 0 0 = some t → t ≤ 80000 := fun s t _ ht => by
    have := tdF_le (fun k hk => (hJ.2 _ (hS.1 k hk)).2.1) (q.1 5) 0 0 t (by omega) ht
    omega
  refine ⟨nI (ntS (fun s => tdF od (q.2.1 3) (q.2.1 4) s (q.1 5) 0 0) (nbF (q.1 5)) (2 ^ q.1 5 - 1)).1, q, hq, fun σ h => ⟨σ, ?_, h⟩, fun τ h => ⟨τ, ?_, h⟩⟩
  · obtain ⟨h32, h57, od', h59, hso⟩ := h.2.2.2.2.2.2
    have hS' : JS (q.1 5) (q.2.1 4) od' := ⟨fun k hk => (h59 k hk).2, hso⟩
    unfold F_xX10_night F_xX4_bestSet
    rw [h32, if_neg (show ¬ (8 : Int32) < nI (q.1 5) from fun z => absurd ((nI_ltI (a := 8) (b := q.1 5) (by omega) (by omega)).mp z) (by omega))]
    have hsh : (1 : Int32) <<< (nI (q.1 5) &&& 31) = nI (2 ^ q.1 5) := by
      have : ∀ j, j < 9 → (1 : Int32) <<< (nI j &&& 31) = nI (2 ^ j) := by decide
      exact this _ (by omega)
    rw [hsh]
    rw [show F_xX4_bestSet_22 FU 0 0 0 (nI (2 ^ q.1 5)) 1 σ = _ from x_set22 (T := fun s => tdF od (q.2.1 3) (q.2.1 4) s (q.1 5) 0 0) (od := od) hJ (fun s hs => by
      have hs2 : s < 256 := by omega
      unfold F_xX4_timeIfDone
      rw [← td_same hJ hS hS' hs]
      exact x_done4 (od := od') hJ hs2 h32 h57 h59 FU 0 0 (by omega) (by rw [FU_is]; omega) (by omega)) hT2 FU 0 hE0 (by rw [FU_is]; omega), bd_is]
  · obtain ⟨h25, h31⟩ := h.2.2.2.2.2.2
    unfold F_mX11_night
    exact m_set9 (T := fun s => tdF od (q.2.1 3) (q.2.1 4) s (q.1 5) 0 0) hJ h25 (fun s hs => m_timeOf hJ hS hs h25 h31) hT2 FU 0 hE0 (by rw [FU_is]; omega)
