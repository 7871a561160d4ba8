/-! counts; how lives share spots -/
theorem ct_inj {c : Nat} : ∀ (M : Nat) (P : Nat → Bool) (g : Nat → Nat), (∀ k, k < c → P k = true → g k < M) → (∀ a b, a < c → b < c → P a = true → P b = true → g a = g b → a = b) → fb_ct P c ≤ M := by
  intro M
  induction M with
  | zero =>
    intro P g h1 _
    have : fb_ct P c = fb_ct (fun _ => false) c := fb_ct_cong fun k hk => by
      cases hp : P k with
      | false => rfl
      | true => have := h1 k hk hp; omega
    rw [this]
    have h0 : ∀ n, fb_ct (fun _ => false) n = 0 := by
      intro n
      induction n with
      | zero => rfl
      | succ n ih => rw [fb_ct_succ, ih]; rfl
    rw [h0]; omega
  | succ M ih =>
    intro P g h1 h2
    by_cases ha : ∃ a, a < c ∧ P a = true ∧ g a = M
    · obtain ⟨a, a1, a2, a3⟩ := ha
      have h3 := fb_ct_upd P false a1
      rw [if_pos a2, if_neg (by decide)] at h3
      have h4 := ih (fun k => if k = a then false else P k) g (fun k hk hp => by
        by_cases e : k = a
        · simp [e] at hp
        · simp only [if_neg e] at hp
          have h5 := h1 k hk hp
          have h6 : g k ≠ M := fun z => e (h2 k a hk a1 hp a2 (by rw [z, a3]))
          omega) (fun x y hx hy px py e => by
        by_cases ex : x = a
        · simp [ex] at px
        · by_cases ey : y = a
          · simp [ey] at py
          · simp only [if_neg ex] at px
            simp only [if_neg ey] at py
            exact h2 x y hx hy px py e)
      omega
    · have := ih P g (fun k hk hp => by
        have h5 := h1 k hk hp
        have h6 : g k ≠ M := fun z => ha ⟨k, hk, hp, z⟩
        omega) h2
      omega
theorem ct_sur {c : Nat} : ∀ (s : Nat) (P : Nat → Bool) (g : Nat → Nat), (∀ t, t < s → ∃ k, k < c ∧ P k = true ∧ g k = t) → s ≤ fb_ct P c := by
  intro s
  induction s with
  | zero => intro P g _; omega
  | succ s ih =>
    intro P g h
    obtain ⟨a, a1, a2, a3⟩ := h s (by omega)
    have h3 := fb_ct_upd P false a1
    rw [if_pos a2, if_neg (by decide)] at h3
    have h4 := ih (fun k => if k = a then false else P k) g (fun t ht => by
      obtain ⟨k, k1, k2, k3⟩ := h t (by omega)
      refine ⟨k, k1, ?_, k3⟩
      show (if k = a then false else P k) = true
      rw [if_neg (fun e => by rw [e, a3] at k3; omega)]
      exact k2)
    omega
def FOK (c : Nat) (f4 f5 : Nat → Int32) : Prop := ∀ n, n < c → f4 n = -1 ∨ ∃ a b, f4 n = nI a ∧ f5 n = nI b ∧ a ≤ b ∧ b < 2000
def F4 (f4 : Nat → Int32) (n : Nat) : Nat := (f4 n).toNatClampNeg
def wtg (f4 : Nat → Int32) (sN : Nat → Nat) (k : Nat) : Bool := decide (sN k = 0 ∧ f4 k ≠ -1)
def nxS (c : Nat) (f4 : Nat → Int32) (sN : Nat → Nat) : Option Nat := fsF (wtg f4 sN) (F4 f4) c
abbrev mtP (f4 f5 : Nat → Int32) (n k : Nat) : Prop := f4 k ≤ f5 n ∧ f4 n ≤ f5 k
def tkF (f4 f5 : Nat → Int32) (n : Nat) (sN : Nat → Nat) : Nat → Nat → Bool
  | 0 => fun _ => false
  | k + 1 => if sN k ≠ 0 ∧ mtP f4 f5 n k then (fun s => if s = sN k - 1 then true else tkF f4 f5 n sN k s) else tkF f4 f5 n sN k
theorem tkF_is {f4 f5 : Nat → Int32} {n : Nat} {sN : Nat → Nat} : ∀ c s, tkF f4 f5 n sN c s = true ↔ ∃ k, k < c ∧ sN k ≠ 0 ∧ mtP f4 f5 n k ∧ s = sN k - 1
  | 0, s => by
    constructor
    · intro h; cases h
    · rintro ⟨k, hk, -⟩; omega
  | c + 1, s => by
    unfold tkF
    by_cases h : sN c ≠ 0 ∧ mtP f4 f5 n c
    · rw [if_pos h]
      by_cases e : s = sN c - 1
      · simp only [if_pos e, true_iff]
        exact ⟨c, by omega, h.1, h.2, e⟩
      · simp only [if_neg e]
        rw [tkF_is c s]
        constructor
        · rintro ⟨k, k1, k2⟩; exact ⟨k, by omega, k2⟩
        · rintro ⟨k, k1, k2, k3, k4⟩
          refine ⟨k, ?_, k2, k3, k4⟩
          have : k ≠ c := fun z => e (by rw [← z]; exact k4)
          omega
    · rw [if_neg h, tkF_is c s]
      constructor
      · rintro ⟨k, k1, k2⟩; exact ⟨k, by omega, k2⟩
      · rintro ⟨k, k1, k2, k3, k4⟩
        refine ⟨k, ?_, k2, k3, k4⟩
        have : k ≠ c := fun z => h (by rw [← z]; exact ⟨k2, k3⟩)
        omega
def lfF (T : Nat → Bool) : Nat → Nat → Nat
  | 0, s => s
  | f + 1, s => if T s = true then lfF T f (s + 1) else s
theorem lfF_is {T : Nat → Bool} : ∀ f s, s ≤ lfF T f s ∧ lfF T f s ≤ s + f ∧ (∀ t, s ≤ t → t < lfF T f s → T t = true) ∧ (lfF T f s < s + f → T (lfF T f s) = false)
  | 0, s => by unfold lfF; exact ⟨Nat.le_refl _, Nat.le_refl _, fun t h1 h2 => by omega, fun h => by omega⟩
  | f + 1, s => by
    unfold lfF
    by_cases h : T s = true
    · rw [if_pos h]
      obtain ⟨i1, i2, i3, i4⟩ := lfF_is (T := T) f (s + 1)
      refine ⟨by omega, by omega, fun t h1 h2 => ?_, fun h5 => i4 (by omega)⟩
      by_cases e : t = s
      · rw [e]; exact h
      · exact i3 t (by omega) h2
    · rw [if_neg h]
      exact ⟨Nat.le_refl _, by omega, fun t h1 h2 => by omega, fun _ => by simpa using h⟩
def lfS (c : Nat) (f4 f5 : Nat → Int32) (n : Nat) (sN : Nat → Nat) : Nat := lfF (tkF f4 f5 n sN c) 40 0
def shT (c : Nat) (f4 f5 : Nat → Int32) (n : Nat) (sN : Nat → Nat) : Nat → Nat := vf_upd sN n (lfS c f4 f5 n sN + 1)
def shL (c : Nat) (f4 f5 : Nat → Int32) : Nat → (Nat → Nat) → Nat → Nat
  | 0, s => s
  | f + 1, s => match nxS c f4 s with
    | none => s
    | some n => shL c f4 f5 f (shT c f4 f5 n s)
def unS (c : Nat) (f4 : Nat → Int32) (sN : Nat → Nat) : Nat := fb_ct (wtg f4 sN) c
def SI (c : Nat) (f4 f5 : Nat → Int32) (sN : Nat → Nat) : Prop := (∀ a, a < c → sN a ≠ 0 → f4 a ≠ -1) ∧ (∀ a b, a < c → b < c → a ≠ b → sN a ≠ 0 → sN a = sN b → ¬ mtP f4 f5 a b) ∧ (∀ a b, a < c → b < c → sN a ≠ 0 → sN b = 0 → f4 b ≠ -1 → F4 f4 a ≤ F4 f4 b) ∧ ∀ a, a < c → sN a ≤ needN f4 f5 c c
theorem ovl_ct (f4 f5 : Nat → Int32) (n : Nat) : ∀ c, ovl f4 f5 n c = fb_ct (fun k => decide (f4 k ≠ -1 ∧ f4 k ≤ f4 n ∧ f4 n ≤ f5 k)) c
  | 0 => rfl
  | c + 1 => by
    rw [fb_ct_succ, ovl, ovl_ct f4 f5 n c]
    by_cases h : f4 c ≠ -1 ∧ f4 c ≤ f4 n ∧ f4 n ≤ f5 c
    · rw [if_pos h, if_pos (decide_eq_true h)]
    · rw [if_neg h, if_neg (by rw [decide_eq_false h]; decide)]
theorem needN_ge {f4 f5 : Nat → Int32} {c : Nat} : ∀ k n, n < k → f4 n ≠ -1 → ovl f4 f5 n c ≤ needN f4 f5 c k
  | 0, n, h, _ => by omega
  | k + 1, n, h, hf => by
    unfold needN
    by_cases e : n = k
    · rw [← e, if_neg hf]; exact Nat.le_max_right _ _
    · have := needN_ge k n (by omega) hf (f5 := f5) (c := c)
      by_cases h2 : f4 k = -1
      · rw [if_pos h2]; exact this
      · rw [if_neg h2]; exact Nat.le_trans this (Nat.le_max_left _ _)
theorem needN_lo {f4 f5 : Nat → Int32} {c N : Nat} (h : ∀ n, n < c → f4 n ≠ -1 → ovl f4 f5 n c ≤ N) : ∀ k, k ≤ c → needN f4 f5 c k ≤ N
  | 0, _ => Nat.zero_le _
  | k + 1, hk => by
    unfold needN
    have := needN_lo h k (by omega)
    by_cases h2 : f4 k = -1
    · rw [if_pos h2]; exact this
    · rw [if_neg h2]; exact Nat.max_le.mpr ⟨this, h k (by omega) h2⟩
theorem F4_le {c : Nat} {f4 f5 : Nat → Int32} (hF : FOK c f4 f5) {a b : Nat} (ha : a < c) (hb : b < c) (h1 : f4 a ≠ -1) (h2 : f4 b ≠ -1) : f4 a ≤ f4 b ↔ F4 f4 a ≤ F4 f4 b := by
  obtain ⟨x, y, e1, -, e3, e4⟩ := (hF a ha).resolve_left h1
  obtain ⟨x', y', e1', -, e3', e4'⟩ := (hF b hb).resolve_left h2
  unfold F4
  rw [e1, e1', nI_clamp (by omega), nI_clamp (by omega)]
  exact nI_leI (by omega) (by omega)
theorem ct_le_c (P : Nat → Bool) (c : Nat) : fb_ct P c ≤ c := fb_ct_le P c
theorem sh_step {c : Nat} {f4 f5 : Nat → Int32} (hc : c ≤ 40) (hF : FOK c f4 f5) {sN : Nat → Nat} (h : SI c f4 f5 sN) {n : Nat} (hn : nxS c f4 sN = some n) : n < c ∧ sN n = 0 ∧ f4 n ≠ -1 ∧ lfS c f4 f5 n sN < 40 ∧ lfS c f4 f5 n sN + 1 ≤ needN f4 f5 c c ∧ SI c f4 f5 (shT c f4 f5 n sN) ∧ unS c f4 (shT c f4 f5 n sN) + 1 = unS c f4 sN := by
  obtain ⟨n1, n2, n3⟩ := fsF_some c n hn
  have n2 := of_decide_eq_true n2
  obtain ⟨a, b, e1, e2, e3, e4⟩ := (hF n n1).resolve_left n2.2
  obtain ⟨-, l2, l3, l4⟩ := lfF_is (T := tkF f4 f5 n sN c) 40 0
  have hself : f4 n ≤ f5 n := by rw [e1, e2]; exact nI_le e3 (by omega)
  have hQ : ovl f4 f5 n c ≤ c := by rw [ovl_ct]; exact ct_le_c _ _
  have hov : lfS c f4 f5 n sN + 1 ≤ ovl f4 f5 n c := by
    have s1 : lfS c f4 f5 n sN ≤ fb_ct (fun k => decide (sN k ≠ 0 ∧ mtP f4 f5 n k)) c := ct_sur _ _ (fun k => sN k - 1) (fun t ht => by
      obtain ⟨k, k1, k2, k3, k4⟩ := (tkF_is c t).mp (l3 t (Nat.zero_le _) ht)
      exact ⟨k, k1, decide_eq_true ⟨k2, k3⟩, k4.symm⟩)
    have s2 := fb_ct_upd (fun k => decide (sN k ≠ 0 ∧ mtP f4 f5 n k)) true n1
    rw [if_neg (by simp [n2.1]), if_pos rfl] at s2
    have s3 : fb_ct (fun k => if k = n then true else decide (sN k ≠ 0 ∧ mtP f4 f5 n k)) c ≤ ovl f4 f5 n c := by
      rw [ovl_ct]
      refine fb_ct_sub (fun k hk hp => ?_)
      by_cases e : k = n
      · subst e
        exact decide_eq_true ⟨n2.2, by rw [i_le]; omega, hself⟩
      · simp only [if_neg e] at hp
        obtain ⟨p1, p2, p3⟩ := of_decide_eq_true hp
        have p4 := h.1 k hk p1
        exact decide_eq_true ⟨p4, (F4_le hF hk n1 p4 n2.2).mpr (h.2.2.1 k n hk n1 p1 n2.1 n2.2), p3⟩
    omega
  have hl40 : lfS c f4 f5 n sN < 40 := by omega
  have hneed := Nat.le_trans hov (needN_ge (f5 := f5) (c := c) c n n1 n2.2)
  have hfree : tkF f4 f5 n sN c (lfS c f4 f5 n sN) = false := l4 (by have := hl40; unfold lfS at this; omega)
  have hno : ∀ k, k < c → sN k ≠ 0 → mtP f4 f5 n k → sN k ≠ lfS c f4 f5 n sN + 1 := by
    intro k k1 k2 k3 e
    have := (tkF_is c (lfS c f4 f5 n sN)).mpr ⟨k, k1, k2, k3, by omega⟩
    rw [hfree] at this; cases this
  have at_n : shT c f4 f5 n sN n = lfS c f4 f5 n sN + 1 := by unfold shT; exact if_pos rfl
  have at_o : ∀ k, k ≠ n → shT c f4 f5 n sN k = sN k := fun k hk => by unfold shT; exact if_neg hk
  have msym : ∀ x y, mtP f4 f5 x y → mtP f4 f5 y x := fun x y z => ⟨z.2, z.1⟩
  refine ⟨n1, n2.1, n2.2, hl40, hneed, ⟨fun x hx hx2 => ?_, fun x y hx hy hne hx0 he => ?_, fun x y hx hy hx0 hy0 hyf => ?_, fun x hx => ?_⟩, ?_⟩
  · by_cases e : x = n
    · rw [e]; exact n2.2
    · rw [at_o x e] at hx2; exact h.1 x hx hx2
  · by_cases ex : x = n
    · subst ex
      rw [at_n, at_o y (fun z => hne z.symm)] at he
      exact fun hm => hno y hy (by omega) hm he.symm
    · rw [at_o x ex] at hx0 he
      by_cases ey : y = n
      · subst ey
        rw [at_n] at he
        exact fun hm => hno x hx hx0 (msym _ _ hm) he
      · rw [at_o y ey] at he
        exact h.2.1 x y hx hy hne hx0 he
  · have ey : y ≠ n := fun e => by rw [e, at_n] at hy0; omega
    rw [at_o y ey] at hy0
    by_cases ex : x = n
    · rw [ex]
      have := n3 y hy (decide_eq_true ⟨hy0, hyf⟩) ey
      omega
    · rw [at_o x ex] at hx0
      exact h.2.2.1 x y hx hy hx0 hy0 hyf
  · by_cases e : x = n
    · rw [e, at_n]; exact hneed
    · rw [at_o x e]; exact h.2.2.2 x hx
  · have s2 := fb_ct_upd (wtg f4 sN) false n1
    rw [if_pos (show wtg f4 sN n = true from decide_eq_true n2), if_neg (by decide)] at s2
    unfold unS
    have s2' : fb_ct (fun k => if k = n then false else wtg f4 sN k) c + 1 = fb_ct (wtg f4 sN) c := s2
    rw [← s2']
    congr 1
    refine fb_ct_cong (fun k hk => ?_)
    by_cases e : k = n
    · rw [if_pos e, e]
      unfold wtg
      rw [at_n]
      exact decide_eq_false (fun z => by omega)
    · rw [if_neg e]
      unfold wtg
      rw [at_o k e]
theorem sh_none {c : Nat} {f4 f5 : Nat → Int32} {sN : Nat → Nat} (h : SI c f4 f5 sN) (hn : nxS c f4 sN = none) {N : Nat} (hN : ∀ a, a < c → sN a ≤ N) : needN f4 f5 c c ≤ N := by
  have hall : ∀ k, k < c → f4 k ≠ -1 → sN k ≠ 0 := fun k hk hf e => by
    have := of_decide_eq_false (fsF_none c hn k hk)
    exact this ⟨e, hf⟩
  refine needN_lo (fun n hn2 hf => ?_) c (Nat.le_refl _)
  rw [ovl_ct]
  refine ct_inj N _ (fun k => sN k - 1) (fun k hk hp => ?_) (fun a b ha hb pa pb e => ?_)
  · obtain ⟨p1, p2, p3⟩ := of_decide_eq_true hp
    have := hall k hk p1
    have := hN k hk
    show sN k - 1 < N
    omega
  · obtain ⟨a1, a2, a3⟩ := of_decide_eq_true pa
    obtain ⟨b1, b2, b3⟩ := of_decide_eq_true pb
    have ea := hall a ha a1
    have eb := hall b hb b1
    apply Decidable.byContradiction
    intro hne
    have e : sN a - 1 = sN b - 1 := e
    refine h.2.1 a b ha hb hne ea (by omega) ⟨?_, ?_⟩
    · rw [i_le] at *; omega
    · rw [i_le] at *; omega
theorem un_0 {c : Nat} {f4 : Nat → Int32} {sN : Nat → Nat} (h : unS c f4 sN = 0) : nxS c f4 sN = none := by
  cases hn : nxS c f4 sN with
  | none => rfl
  | some n =>
    obtain ⟨n1, n2, -⟩ := fsF_some c n hn
    have s2 := fb_ct_upd (wtg f4 sN) false n1
    rw [if_pos n2, if_neg (by decide)] at s2
    unfold unS at h
    omega
theorem SI_0 {c : Nat} {f4 f5 : Nat → Int32} : SI c f4 f5 (fun _ => 0) := ⟨fun _ _ h => absurd rfl h, fun _ _ _ _ _ h => absurd rfl h, fun _ _ _ _ h => absurd rfl h, fun _ _ => Nat.zero_le _⟩
