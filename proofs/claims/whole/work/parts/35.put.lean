/-! put, move, lay, keep -/
def XS (w : Nat) (rd : Nat → Nat) (c : Nat) (sp : Nat → Nat) (σ : St) : Prop := ∀ n, n < c → σ.2.1 26 n = nI (sp n) ∧ σ.2.1 27 n = nI (sp n % w % rd (sp n / w)) ∧ σ.2.1 28 n = nI (rd (sp n / w))
def XN (c : Nat) (sp : Nat → Nat) (f : Nat → Int32) : Prop := (∀ n, n < c → f (sp n) = nI n) ∧ ∀ s, s < 128 → (∀ n, n < c → sp n ≠ s) → f s = -1
theorem XL_iff {w : Nat} {rd : Nat → Nat} {c : Nat} {sp : Nat → Nat} {bad : Nat → Int32} {σ : St} : XL w rd c sp bad σ ↔ σ.1 17 = nI c ∧ XS w rd c sp σ ∧ XN c sp (σ.2.1 29) ∧ ∀ s, s < 128 → σ.2.1 30 s = bad s := by
  constructor
  · intro h
    exact ⟨h.1, fun n hn => ⟨(h.2.1 n hn).1, (h.2.1 n hn).2.1, (h.2.1 n hn).2.2.1⟩, ⟨fun n hn => (h.2.1 n hn).2.2.2, h.2.2.1⟩, h.2.2.2⟩
  · intro h
    exact ⟨h.1, fun n hn => ⟨(h.2.1 n hn).1, (h.2.1 n hn).2.1, (h.2.1 n hn).2.2, h.2.2.1.1 n hn⟩, h.2.2.1.2, h.2.2.2⟩
/-- a name laid on a spot, whatever lay there -/
def putS (w : Nat) (rd : Nat → Nat) (n s : Nat) (σ : St) : St := sA (sA (sA (sA σ 26 (upd (σ.2.1 26) n (nI s))) 29 (upd (σ.2.1 29) s (nI n))) 28 (upd (σ.2.1 28) n (nI (rd (s / w))))) 27 (upd (σ.2.1 27) n (nI (s % w % rd (s / w))))
theorem x_round {w t : Nat} {rd pl : Nat → Nat} (hd : DOK w t rd pl) {σ : St} (h : XD w t rd pl σ) {s : Nat} (hs : there w t pl s) : F_xX1_roundOf (nI s) σ = some (nI (rd (s / w)), σ) := by
  obtain ⟨h1, h2⟩ := there_lt hd hs
  have ht := hd.2.2.2.1
  unfold F_xX1_roundOf
  rw [x_track hd h.1 (by omega) (by omega), bd_is, if_pos (ib_nI (by omega) (by omega)), nI_clamp (by omega), (h.2.2 _ h2).1]
theorem x_put {w t : Nat} {rd pl : Nat → Nat} (hd : DOK w t rd pl) {σ : St} (h : XD w t rd pl σ) {n s : Nat} (hn : n < 40) (hs : there w t pl s) : F_xX3_put (nI n) (nI s) σ = some (putS w rd n s σ) := by
  obtain ⟨h1, h2⟩ := there_lt hd hs
  have hr := hd.2.2.2.2 _ h2
  have hw := hd.2.1
  have hm : s % w < w := Nat.mod_lt _ (by have := hd.1; omega)
  unfold F_xX3_put
  rw [if_neg (nI_pos (by omega)), if_neg (show ¬ (40 : Int32) ≤ nI n from nI_ge (b := 40) hn (by omega)), if_neg (nI_pos (by omega)), if_pos (show nI s < (128 : Int32) from nI_lt (b := 128) h1 (by omega)), if_pos (ib_nI (by omega) (by omega)), if_pos (ib_nI h1 (by omega)), nI_clamp (by omega), nI_clamp (by omega)]
  rw [x_round hd (σ := sA (sA σ 26 (upd (σ.2.1 26) n (nI s))) 29 (upd (σ.2.1 29) s (nI n))) h hs, bd_is, if_neg (nI_nle (by omega) (by omega))]
  rw [x_place hd (σ := sA (sA (sA σ 26 (upd (σ.2.1 26) n (nI s))) 29 (upd (σ.2.1 29) s (nI n))) 28 _) h.1 (by omega), bd_is, if_neg (nI_ne0 (by omega) (by omega)), pk_rem (by omega) (by omega) (by omega)]
  rfl
theorem XS_put {w : Nat} {rd : Nat → Nat} {c : Nat} {sp : Nat → Nat} {σ : St} (h : XS w rd c sp σ) (n s : Nat) : XS w rd c (vf_upd sp n s) (putS w rd n s σ) := by
  intro k hk
  show upd (σ.2.1 26) n (nI s) k = nI (vf_upd sp n s k) ∧ upd (σ.2.1 27) n _ k = _ ∧ upd (σ.2.1 28) n _ k = _
  rw [u_is, u_is, u_is]
  unfold vf_upd
  by_cases e : k = n
  · simp only [if_pos e]
    exact ⟨trivial, trivial, trivial⟩
  · simp only [if_neg e]
    exact h k hk
theorem XN_put {c : Nat} {sp : Nat → Nat} {f : Nat → Int32} (hi : ∀ m n, m < c → n < c → sp m = sp n → m = n) (h : XN c sp f) {n s : Nat} (hn : n < c) (hs : ∀ m, m < c → m ≠ n → sp m ≠ s) : XN c (vf_upd sp n s) (upd (upd f (sp n) (-1)) s (nI n)) := by
  constructor
  · intro k hk
    rw [u_is, u_is]
    unfold vf_upd
    by_cases e : k = n
    · rw [if_pos e, if_pos rfl, e]
    · rw [if_neg e, if_neg (hs k hk e), if_neg (fun z => e (hi k n hk hn z))]
      exact h.1 k hk
  · intro s' hs' hno
    rw [u_is, u_is]
    have h1 : s' ≠ s := by
      have := hno n hn
      unfold vf_upd at this
      rw [if_pos rfl] at this
      exact fun z => this z.symm
    rw [if_neg h1]
    by_cases e : s' = sp n
    · rw [if_pos e]
    · rw [if_neg e]
      refine h.2 s' hs' (fun k hk z => ?_)
      have := hno k hk
      unfold vf_upd at this
      by_cases e2 : k = n
      · subst e2; exact e z.symm
      · rw [if_neg e2] at this
        exact this z
def movS (w : Nat) (rd : Nat → Nat) (o n s : Nat) (σ : St) : St := putS w rd n s (sA σ 29 (upd (σ.2.1 29) o (-1)))
theorem x_move {w t : Nat} {rd pl : Nat → Nat} (hd : DOK w t rd pl) {σ : St} (h : XD w t rd pl σ) {n s o : Nat} (hn : n < 40) (ho : o < 128) (h26 : σ.2.1 26 n = nI o) (hs : there w t pl s) : F_xX3_move (nI n) (nI s) σ = some (movS w rd o n s σ) := by
  unfold F_xX3_move
  rw [if_neg (nI_pos (by omega)), if_neg (show ¬ (40 : Int32) ≤ nI n from nI_ge (b := 40) hn (by omega)), if_pos (ib_nI (by omega) (by omega)), nI_clamp (by omega), h26, if_neg (nI_pos (by omega)), if_pos (show nI o < (128 : Int32) from nI_lt (b := 128) ho (by omega)), if_pos (ib_nI ho (by omega)), nI_clamp (by omega)]
  rw [x_put hd (σ := sA σ 29 (upd (σ.2.1 29) o (-1))) h hn hs, bv_is]
  rfl
theorem XL_move {w t : Nat} {rd pl : Nat → Nat} {c : Nat} {sp : Nat → Nat} {bad : Nat → Int32} {σ : St} (hL : LOK w t pl c sp) (h : XL w rd c sp bad σ) {n s : Nat} (hn : n < c) (hs : ∀ m, m < c → m ≠ n → sp m ≠ s) : XL w rd c (vf_upd sp n s) bad (movS w rd (sp n) n s σ) := by
  rw [XL_iff] at h ⊢
  exact ⟨h.1, XS_put (σ := sA σ 29 (upd (σ.2.1 29) (sp n) (-1))) h.2.1 n s, XN_put hL.2 h.2.2.1 hn hs, h.2.2.2⟩
theorem LOK_move {w t : Nat} {pl : Nat → Nat} {c : Nat} {sp : Nat → Nat} (hL : LOK w t pl c sp) {n s : Nat} (ht : there w t pl s) (hs : ∀ m, m < c → m ≠ n → sp m ≠ s) : LOK w t pl c (vf_upd sp n s) := by
  refine ⟨fun k hk => ?_, fun a b ha hb e => ?_⟩
  · unfold vf_upd
    by_cases e : k = n
    · rw [if_pos e]; exact ht
    · rw [if_neg e]; exact hL.1 k hk
  · unfold vf_upd at e
    by_cases e1 : a = n
    · by_cases e2 : b = n
      · rw [e1, e2]
      · rw [if_pos e1, if_neg e2] at e
        exact absurd e.symm (hs b hb e2)
    · by_cases e2 : b = n
      · rw [if_neg e1, if_pos e2] at e
        exact absurd e (hs a ha e1)
      · rw [if_neg e1, if_neg e2] at e
        exact hL.2 a b ha hb e
theorem api_lay (x y : Int32) : API (F_xX10_lay x y) (F_mX11_lay x y) := by
  intro q hq
  have hd := hq.2.1
  have hc : q.1 3 ≤ 40 := hq.2.2.1.1
  have hL := hq.2.2.2.1
  rcases nm_cases x (c := q.1 3) (by omega) with ⟨n, hn, rfl⟩ | ⟨hx, -⟩
  · rcases sp_cases (q.1 1) (q.1 2) (q.2.1 1) y with ⟨s, hs, rfl, hth⟩ | hy
    · have hs128 := (there_lt hd hth).1
      have hsn := (there_lt hd (hL.1 n hn)).1
      rcases hq.2.2.2.2.1 s hs128 with hb | hb
      · by_cases hl : ∃ a, a < q.1 3 ∧ a ≠ n ∧ q.2.1 2 a = s
        · obtain ⟨a, ha, han, rfl⟩ := hl
          refine ⟨-4, q, hq, fun σ h => ⟨σ, ?_, h⟩, fun τ h => ⟨τ, ?_, h⟩⟩
          · unfold F_xX10_lay
            rw [has_y h.2.2.1 hc hn, bd_is, if_neg (by decide), x_has_y hd h.2.1 hth, bd_is, if_neg (by decide), if_pos (ib_nI hs128 (by omega)), nI_clamp (by omega), h.2.2.2.1.2.2.2 _ hs128, hb, if_pos rfl, (h.2.2.2.1.2.1 a ha).2.2.2, if_neg (m1_ne a (by omega)), if_neg (by rw [nI_eq (by omega) (by omega)]; exact han)]
          · unfold F_mX11_lay
            rw [isn_y h.2.2.1 hc hn, bd_is, if_neg (by decide), m_th_y hd h.2.1 hth, bd_is, if_neg (by decide), if_pos (ib_nI hs128 (by omega)), nI_clamp (by omega), h.2.2.2.1.2 _ hs128, hb, if_pos rfl]
            rcases m_lies hd hL hc h.2.2.1.1 h.2.2.2.1.1 hs128 with ⟨a', ha', e, he⟩ | ⟨hno, -⟩
            · have := hL.2 a' a ha' ha e
              subst this
              rw [he, bd_is, if_neg (m1_ne a' (by omega)), he, bd_is, if_neg (by rw [nI_eq (by omega) (by omega)]; exact han)]
            · exact absurd rfl (hno a ha)
        · have hl2 : ∀ m, m < q.1 3 → m ≠ n → q.2.1 2 m ≠ s := fun m hm hmn e => hl ⟨m, hm, hmn, e⟩
          refine ⟨nI (q.2.1 2 n), aF q 2 (vf_upd (q.2.1 2) n s), ⟨hq.1, hq.2.1, hq.2.2.1, LOK_move hL hth hl2, hq.2.2.2.2⟩, fun σ h => ⟨movS (q.1 1) (q.2.1 0) (q.2.1 2 n) n s σ, ?_, h.1, h.2.1, h.2.2.1, XL_move hL h.2.2.2.1 hn hl2, h.2.2.2.2⟩, fun τ h => ⟨sA τ 7 (upd (τ.2.1 7) n (nI s)), ?_, h.1, h.2.1, h.2.2.1, ⟨fun k hk => ?_, h.2.2.2.1.2⟩, h.2.2.2.2⟩⟩
          · have h60 : F_xX10_lay_60 (nI n) (nI s) σ = some (nI (q.2.1 2 n), movS (q.1 1) (q.2.1 0) (q.2.1 2 n) n s σ) := by
              unfold F_xX10_lay_60
              rw [if_pos (ib_nI (by omega) (by omega)), nI_clamp (by omega), x_move hd h.2.1 (by omega) hsn (h.2.2.2.1.2.1 n hn).1 hth, bv_is, (h.2.2.2.1.2.1 n hn).1]
            unfold F_xX10_lay
            rw [has_y h.2.2.1 hc hn, bd_is, if_neg (by decide), x_has_y hd h.2.1 hth, bd_is, if_neg (by decide), if_pos (ib_nI hs128 (by omega)), nI_clamp (by omega), h.2.2.2.1.2.2.2 _ hs128, hb, if_pos rfl, h60]
            by_cases e : q.2.1 2 n = s
            · rw [← e, (h.2.2.2.1.2.1 n hn).2.2.2, if_neg (m1_ne n (by omega)), if_pos rfl]
            · rw [h.2.2.2.1.2.2.1 s hs128 (fun k hk z => by
                by_cases e2 : k = n
                · subst e2; exact e z
                · exact hl2 k hk e2 z), if_pos rfl]
          · have h49 : F_mX11_lay_49 (nI n) (nI s) τ = some (nI (q.2.1 2 n), sA τ 7 (upd (τ.2.1 7) n (nI s))) := by
              unfold F_mX11_lay_49
              rw [if_pos (ib_nI (by omega) (by omega)), nI_clamp (by omega), h.2.2.2.1.1 n hn]
            unfold F_mX11_lay
            rw [isn_y h.2.2.1 hc hn, bd_is, if_neg (by decide), m_th_y hd h.2.1 hth, bd_is, if_neg (by decide), if_pos (ib_nI hs128 (by omega)), nI_clamp (by omega), h.2.2.2.1.2 _ hs128, hb, if_pos rfl]
            rcases m_lies hd hL hc h.2.2.1.1 h.2.2.2.1.1 hs128 with ⟨a', ha', e, he⟩ | ⟨-, he⟩
            · have : a' = n := by
                by_cases e2 : a' = n
                · exact e2
                · exact absurd e (hl2 a' ha' e2)
              subst this
              rw [he, bd_is, if_neg (m1_ne a' (by omega)), he, bd_is, if_pos rfl, h49]
            · rw [he, bd_is, if_pos rfl, h49]
          · show upd (τ.2.1 7) n (nI s) k = nI (vf_upd (q.2.1 2) n s k)
            rw [u_is]
            unfold vf_upd
            by_cases e : k = n
            · rw [if_pos e, if_pos e]
            · rw [if_neg e, if_neg e]
              exact h.2.2.2.1.1 k hk
      · refine ⟨-4, q, hq, fun σ h => ⟨σ, ?_, h⟩, fun τ h => ⟨τ, ?_, h⟩⟩
        · unfold F_xX10_lay
          rw [has_y h.2.2.1 hc hn, bd_is, if_neg (by decide), x_has_y hd h.2.1 hth, bd_is, if_neg (by decide), if_pos (ib_nI hs128 (by omega)), nI_clamp (by omega), h.2.2.2.1.2.2.2 _ hs128, hb, if_neg (by decide)]
        · unfold F_mX11_lay
          rw [isn_y h.2.2.1 hc hn, bd_is, if_neg (by decide), m_th_y hd h.2.1 hth, bd_is, if_neg (by decide), if_pos (ib_nI hs128 (by omega)), nI_clamp (by omega), h.2.2.2.1.2 _ hs128, hb, if_neg (by decide)]
    · refine ⟨-2, q, hq, fun σ h => ⟨σ, ?_, h⟩, fun τ h => ⟨τ, ?_, h⟩⟩
      · unfold F_xX10_lay
        rw [has_y h.2.2.1 hc hn, bd_is, if_neg (by decide), x_has_n hd h.2.1 hy, bd_is, if_pos rfl]
      · unfold F_mX11_lay
        rw [isn_y h.2.2.1 hc hn, bd_is, if_neg (by decide), m_th_n hd h.2.1 hy, bd_is, if_pos rfl]
  · refine ⟨-2, q, hq, fun σ h => ⟨σ, ?_, h⟩, fun τ h => ⟨τ, ?_, h⟩⟩
    · unfold F_xX10_lay
      rw [has_n h.2.2.1 hx, bd_is, if_pos rfl]
    · unfold F_mX11_lay
      rw [isn_n h.2.2.1 hc hx, bd_is, if_pos rfl]
/-! keep -/
def kpS (k c : Nat) (sp kp : Nat → Nat) : Nat → Nat := fun i => if 40 * k ≤ i ∧ i < 40 * k + c then sp (i - 40 * k) else kp i
theorem m_keep {c k : Nat} {sp : Nat → Nat} (hc : c ≤ 40) (hk : k < 4) : ∀ (n a : Nat) (τ : St), τ.1 12 = nI c → (∀ n, n < c → τ.2.1 7 n = nI (sp n)) → a ≤ c → c < n + a → ∃ f, F_mX11_keep_31 n (nI k) (nI a) τ = some (1, sA τ 28 f) ∧ (∀ i, 40 * k + a ≤ i → i < 40 * k + c → f i = nI (sp (i - 40 * k))) ∧ ∀ i, i < 40 * k + a ∨ 40 * k + c ≤ i → f i = τ.2.1 28 i := by
  intro n
  induction n with
  | zero => intro a τ _ _ h1 h2; omega
  | succ n ih =>
    intro a τ h12 h7 h1 h2
    unfold F_mX11_keep_31
    rw [h12]
    by_cases e : a = c
    · subst e
      rw [if_pos (nI_le (Nat.le_refl _) (by omega))]
      refine ⟨τ.2.1 28, ?_, fun i _ _ => by omega, fun _ _ => rfl⟩
      have : sA τ 28 (τ.2.1 28) = τ := by
        unfold sA
        have : vf_upd τ.2.1 28 (τ.2.1 28) = τ.2.1 := by
          funext j
          unfold vf_upd
          by_cases e : j = 28
          · rw [if_pos e, e]
          · rw [if_neg e]
        rw [this]
      rw [this]
    · have ha : a < c := by omega
      have e4 : (40 : Int32) * nI k + nI a = nI (40 * k + a) := by rw [show (40 : Int32) = nI 40 from rfl, pk_mul, nI_add]
      rw [if_neg (nI_ge ha (by omega)), if_pos (ib_nI (by omega) (by omega)), e4, if_pos (ib_nI (by omega) (by omega)), nI_clamp (by omega), nI_clamp (by omega), h7 a ha, nI_1]
      obtain ⟨f, g1, g2, g3⟩ := ih (a + 1) (sA τ 28 (upd (τ.2.1 28) (40 * k + a) (nI (sp a)))) h12 h7 (by omega) (by omega)
      refine ⟨f, ?_, fun i hi1 hi2 => ?_, fun i hi => ?_⟩
      · rw [g1, sA_sA]
      · by_cases e2 : i = 40 * k + a
        · rw [g3 i (by omega)]
          show upd (τ.2.1 28) (40 * k + a) (nI (sp a)) i = _
          rw [u_is, if_pos e2, e2]
          congr 2
          omega
        · exact g2 i (by omega) hi2
      · rw [g3 i (by omega)]
        show upd (τ.2.1 28) (40 * k + a) (nI (sp a)) i = _
        rw [u_is, if_neg (by omega)]
theorem XK_keep {c k : Nat} {ik : Nat → Int32} {kp sp : Nat → Nat} {σ : St} (hc : c ≤ 40) (i : Nat) (h26 : ∀ n, n < c → σ.2.1 26 n = nI (sp n)) (h : XK1 c (ik i) kp i (σ.2.1 (32 + i))) : XK1 c (upd ik k 1 i) (kpS k c sp kp) i ((sA σ (32 + k) (va_cpy (σ.2.1 26) (σ.2.1 (32 + k)) 0 0 40)).2.1 (32 + i)) := by
  intro h1 n hn
  rw [rA_A]
  unfold kpS
  by_cases e : i = k
  · subst e
    rw [if_pos rfl, if_pos ⟨by omega, by omega⟩, pk_cpy_in (by omega) (by omega), show 0 + (n - 0) = n by omega, h26 n hn, show 40 * i + n - 40 * i = n by omega]
  · rw [if_neg (by omega), if_neg (by omega)]
    rw [u_is, if_neg e] at h1
    exact h h1 n hn
theorem api_keep (x : Int32) : API (F_xX10_keep x) (F_mX11_keep x) := by
  intro q hq
  have hc : q.1 3 ≤ 40 := hq.2.2.1.1
  have i3 : (3 : Int32).toInt = 3 := rfl
  have i0 : (0 : Int32).toInt = 0 := rfl
  have i4 : (4 : Int32).toInt = 4 := rfl
  rcases nm_cases x (c := 4) (by omega) with ⟨k, hk, rfl⟩ | ⟨hx, -⟩
  · have hin : ¬ (nI k < 0 ∨ 3 < nI k) := by rw [i_lt, i_lt, i0, i3, nI_toInt (by omega)]; omega
    by_cases h0 : q.1 3 = 0
    · refine ⟨-4, q, hq, fun σ h => ⟨σ, ?_, h⟩, fun τ h => ⟨τ, ?_, h⟩⟩
      · unfold F_xX10_keep
        rw [if_neg (nI_pos (by omega)), if_pos (show nI k < (4 : Int32) from nI_lt (b := 4) hk (by omega)), h.2.2.1.1, h0, if_pos nI_0]
      · unfold F_mX11_keep
        rw [in_is, if_neg hin, bd_is, if_neg (by decide), h.2.2.1.1, h0, if_pos nI_0]
    · have hK := hq.2.2.2.2.2.1
      refine ⟨1, aG (aF q 5 (kpS k (q.1 3) (q.2.1 2) (q.2.1 5))) 3 (upd (q.2.2.2 3) k 1), ⟨hq.1, hq.2.1, hq.2.2.1, hq.2.2.2.1, hq.2.2.2.2.1, fun i hi => ?_, hq.2.2.2.2.2.2⟩, fun σ h => ?_, fun τ h => ?_⟩
      · show (upd (q.2.2.2 3) k 1 i = 0 ∨ upd (q.2.2.2 3) k 1 i = 1) ∧ (upd (q.2.2.2 3) k 1 i = 1 → 0 < q.1 3 ∧ LOK (q.1 1) (q.1 2) (q.2.1 1) (q.1 3) (fun n => kpS k (q.1 3) (q.2.1 2) (q.2.1 5) (40 * i + n)))
        rw [u_is]
        by_cases e : i = k
        · subst e
          rw [if_pos rfl]
          refine ⟨Or.inr rfl, fun _ => ⟨by omega, ?_⟩⟩
          have e2 : ∀ n, n < q.1 3 → kpS i (q.1 3) (q.2.1 2) (q.2.1 5) (40 * i + n) = q.2.1 2 n := by
            intro n hn
            unfold kpS
            rw [if_pos ⟨by omega, by omega⟩, show 40 * i + n - 40 * i = n by omega]
          refine ⟨fun n hn => ?_, fun a b ha hb => ?_⟩
          · show there _ _ _ (kpS i (q.1 3) (q.2.1 2) (q.2.1 5) (40 * i + n))
            rw [e2 n hn]
            exact hq.2.2.2.1.1 n hn
          · show kpS i (q.1 3) (q.2.1 2) (q.2.1 5) (40 * i + a) = kpS i (q.1 3) (q.2.1 2) (q.2.1 5) (40 * i + b) → a = b
            rw [e2 a ha, e2 b hb]
            exact hq.2.2.2.1.2 a b ha hb
        · rw [if_neg e]
          refine ⟨(hK i hi).1, fun h1 => ⟨by omega, ?_⟩⟩
          have e2 : ∀ n, n < q.1 3 → kpS k (q.1 3) (q.2.1 2) (q.2.1 5) (40 * i + n) = q.2.1 5 (40 * i + n) := by
            intro n hn
            unfold kpS
            rw [if_neg (by omega)]
          have hk2 := ((hK i hi).2 h1).2
          refine ⟨fun n hn => ?_, fun a b ha hb => ?_⟩
          · show there _ _ _ (kpS k (q.1 3) (q.2.1 2) (q.2.1 5) (40 * i + n))
            rw [e2 n hn]
            exact hk2.1 n hn
          · show kpS k (q.1 3) (q.2.1 2) (q.2.1 5) (40 * i + a) = kpS k (q.1 3) (q.2.1 2) (q.2.1 5) (40 * i + b) → a = b
            rw [e2 a ha, e2 b hb]
            exact hk2.2 a b ha hb
      · have h26 : ∀ n, n < q.1 3 → σ.2.1 26 n = nI (q.2.1 2 n) := fun n hn => (h.2.2.2.1.2.1 n hn).1
        have hX := h.2.2.2.2.1
        have hev : F_xX10_keep (nI k) σ = some (1, sA (sA σ (32 + k) (va_cpy (σ.2.1 26) (σ.2.1 (32 + k)) 0 0 40)) 36 (upd ((sA σ (32 + k) (va_cpy (σ.2.1 26) (σ.2.1 (32 + k)) 0 0 40)).2.1 36) k 1)) := by
          unfold F_xX10_keep F_xX3_store
          rw [if_neg (nI_pos (by omega)), if_pos (show nI k < (4 : Int32) from nI_lt (b := 4) hk (by omega)), h.2.2.1.1, if_neg (nI_ne0 (by omega) (by omega)), if_pos (ib_nI hk (by omega)), nI_clamp (by omega), bv_is]
          rfl
        refine ⟨_, hev, ?_⟩
        have x0 := XK_keep (k := k) (ik := q.2.2.2 3) (kp := q.2.1 5) hc 0 h26 hX.2.1
        have x1 := XK_keep (k := k) (ik := q.2.2.2 3) (kp := q.2.1 5) hc 1 h26 hX.2.2.1
        have x2 := XK_keep (k := k) (ik := q.2.2.2 3) (kp := q.2.1 5) hc 2 h26 hX.2.2.2.1
        have x3 := XK_keep (k := k) (ik := q.2.2.2 3) (kp := q.2.1 5) hc 3 h26 hX.2.2.2.2
        have e36 : (sA σ (32 + k) (va_cpy (σ.2.1 26) (σ.2.1 (32 + k)) 0 0 40)).2.1 36 = σ.2.1 36 := by rw [rA_A, if_neg (by omega)]
        rw [e36]
        rcases (show k = 0 ∨ k = 1 ∨ k = 2 ∨ k = 3 by omega) with rfl | rfl | rfl | rfl
        all_goals
          refine ⟨h.1, h.2.1, h.2.2.1, h.2.2.2.1, ⟨fun i hi => ?_, x0, x1, x2, x3⟩, h.2.2.2.2.2⟩
          show upd (σ.2.1 36) _ 1 i = upd (q.2.2.2 3) _ 1 i
          rw [u_is, u_is, hX.1 i hi]
      · obtain ⟨f, g1, g2, g3⟩ := m_keep (k := k) (sp := q.2.1 2) hc hk FU 0 (sA τ 27 (upd (τ.2.1 27) k 1)) h.2.2.1.1 h.2.2.2.1.1 (Nat.zero_le _) (by rw [FU_is]; omega)
        have hev : F_mX11_keep (nI k) τ = some (1, sA (sA τ 27 (upd (τ.2.1 27) k 1)) 28 f) := by
          unfold F_mX11_keep
          rw [in_is, if_neg hin, bd_is, if_neg (by decide), h.2.2.1.1, if_neg (nI_ne0 (by omega) (by omega)), if_pos (ib_nI hk (by omega)), nI_clamp (by omega)]
          exact g1
        refine ⟨_, hev, h.1, h.2.1, h.2.2.1, h.2.2.2.1, fun i hi => ?_, h.2.2.2.2.2⟩
        show upd (τ.2.1 27) k 1 i = upd (q.2.2.2 3) k 1 i ∧ (upd (q.2.2.2 3) k 1 i = 1 → ∀ n, n < q.1 3 → f (40 * i + n) = nI (kpS k (q.1 3) (q.2.1 2) (q.2.1 5) (40 * i + n)))
        have hM := h.2.2.2.2.1 i hi
        rw [u_is, u_is, hM.1]
        refine ⟨rfl, fun h1 n hn => ?_⟩
        unfold kpS
        by_cases e : i = k
        · subst e
          rw [g2 _ (by omega) (by omega), if_pos ⟨by omega, by omega⟩]
        · rw [if_neg e] at h1
          rw [g3 _ (by omega), if_neg (by omega)]
          exact hM.2 h1 n hn
  · refine ⟨-2, q, hq, fun σ h => ⟨σ, ?_, h⟩, fun τ h => ⟨τ, ?_, h⟩⟩
    · unfold F_xX10_keep
      by_cases h0 : x < 0
      · rw [if_pos h0]
      · rw [if_neg h0, if_neg (show ¬ x < 4 by
          have := hx.resolve_left h0
          rw [i_le, nI_toInt (by omega)] at this
          rw [i_lt, i4]; omega)]
    · unfold F_mX11_keep
      rw [in_is, if_pos (by
          rcases hx with hx | hx
          · exact Or.inl hx
          · right
            rw [i_le, nI_toInt (by omega)] at hx
            rw [i_lt, i3]; omega), bd_is, if_pos rfl]
