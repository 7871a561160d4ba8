/-! best: the class -/
theorem XS_cong {w : Nat} {rd : Nat → Nat} {c : Nat} {f g : Nat → Nat} {σ : St} (h : ∀ n, n < c → f n = g n) (hX : XS w rd c f σ) : XS w rd c g σ := by
  intro n hn
  have := hX n hn
  rw [h n hn] at this
  exact this
/-- the names on spots in the midst of a row being laid -/
def NAk (nw v : Nat → Nat) (k : Nat) (g0 g : Nat → Int32) : Prop := (∀ j, j < k → g (v j) = nI (nw j)) ∧ ∀ s, (∀ j, j < k → v j ≠ s) → g s = g0 s
theorem NAk_s {nw v : Nat → Nat} {k : Nat} {g0 g : Nat → Int32} (hv : ∀ j, j < k → v j ≠ v k) (h : NAk nw v k g0 g) : NAk nw v (k + 1) g0 (upd g (v k) (nI (nw k))) := by
  constructor
  · intro j hj
    rw [u_is]
    by_cases e : j = k
    · rw [e, if_pos rfl]
    · rw [if_neg (hv j (by omega))]
      exact h.1 j (by omega)
  · intro s hs
    rw [u_is, if_neg (fun e => hs k (by omega) e.symm)]
    exact h.2 s (fun j hj => hs j (by omega))
theorem XN_ly {w t : Nat} {pl : Nat → Nat} {c K : Nat} {B : Nat → Bool} {sp nw rs : Nat → Nat} (hL : LOK w t pl c sp) (h : CH c K B sp nw rs) {z : Nat} (hz : GZ K z) {f : Nat → Nat} (hf : OLD c K B sp rs f) {g0 g : Nat → Int32} (h0 : XN c f g0) (hg : NAk nw (fun j => rs (dg z j)) K g0 g) : XN c (lyB B sp rs z) g := by
  constructor
  · intro n hn
    unfold lyB
    cases hB : B n with
    | true =>
      rw [if_pos rfl, hg.1 _ (h.2.2.1 n hn hB)]
      congr 1
      exact ((h.nw_iff (h.2.2.1 n hn hB) n).mpr ⟨hB, rfl⟩).symm
    | false =>
      rw [if_neg (by decide), hg.2, ← hf.1 n hn hB]
      · exact h0.1 n hn
      · intro j hj e
        obtain ⟨m, m1, m2, m3⟩ := h.of (hz.1 j hj)
        have := hL.2 m n m1 hn (m3.trans e)
        rw [← this, m2] at hB; cases hB
  · intro s hs hno
    have hv : ∀ j, j < K → rs (dg z j) ≠ s := by
      intro j hj e
      obtain ⟨n1, n2, n3⟩ := h.2.1 j hj
      refine hno (nw j) n1 ?_
      unfold lyB
      rw [n2, if_pos rfl, n3]
      exact e
    rw [hg.2 s hv]
    refine h0.2 s hs (fun n hn e => ?_)
    cases hB : B n with
    | false =>
      refine hno n hn ?_
      unfold lyB
      rw [hB, if_neg (by decide), ← hf.1 n hn hB]
      exact e
    | true =>
      obtain ⟨i, i1, i2⟩ := hf.2 n hn hB
      obtain ⟨k, k1, k2⟩ := hz.2.1 i i1
      exact hv k k1 (by rw [k2, ← i2]; exact e)
/-- a row in an array of the class -/
def RA (A K : Nat) (rs : Nat → Nat) (z : Nat) (σ : St) : Prop := ∀ i, i < K → σ.2.1 A i = nI (rs (dg z i))
theorem RA.fr {A K : Nat} {rs : Nat → Nat} {z : Nat} {σ σ' : St} {S Q : List Nat} (h : RA A K rs z σ) (hf : fr1 S Q σ σ') (hQ : A ∉ Q) : RA A K rs z σ' := fun i hi => by rw [hf.2 A hQ]; exact h i hi
def NW (K : Nat) (nw : Nat → Nat) (σ : St) : Prop := σ.1 31 = nI K ∧ ∀ k, k < K → σ.2.1 53 k = nI (nw k)
theorem NW.fr {K : Nat} {nw : Nat → Nat} {σ σ' : St} {S Q : List Nat} (h : NW K nw σ) (hf : fr1 S Q σ σ') (hS : 31 ∉ S) (hQ : 53 ∉ Q) : NW K nw σ' := ⟨(hf.1 31 hS).trans h.1, fun k hk => by rw [hf.2 53 hQ]; exact h.2 k hk⟩
theorem x_layRow2 {w t : Nat} {rd pl : Nat → Nat} (hd : DOK w t rd pl) {c K : Nat} {B : Nat → Bool} {sp nw rs : Nat → Nat} (hc : c ≤ 40) (hL : LOK w t pl c sp) (h : CH c K B sp nw rs) {z : Nat} (hz : GZ K z) {f : Nat → Nat} {g0 : Nat → Int32} : ∀ (n k : Nat) (σ : St), k ≤ K → K < n + k → NW K nw σ → RA 55 K rs z σ → XD w t rd pl σ → XS w rd c (lyM B f rs z k) σ → NAk nw (fun j => rs (dg z j)) k g0 (σ.2.1 29) →
    ∃ σ', F_xX8_layRow_2 n (nI k) σ = some σ' ∧ fr1 [] [26, 27, 28, 29] σ σ' ∧ XS w rd c (lyM B f rs z K) σ' ∧ NAk nw (fun j => rs (dg z j)) K g0 (σ'.2.1 29) := by
  intro n
  induction n with
  | zero => intro k σ h1 h2; omega
  | succ n ih =>
    intro k σ hk hn hN hR hD hX hA
    have hK := h.1
    unfold F_xX8_layRow_2
    rw [hN.1]
    by_cases e : k = K
    · subst e
      rw [if_pos (nI_le (Nat.le_refl _) (by omega))]
      exact ⟨σ, rfl, fr1.rf, hX, hA⟩
    · have hlt : k < K := by omega
      have hw := h.2.1 k hlt
      obtain ⟨m, m1, m2, m3⟩ := h.of (hz.1 k hlt)
      have hth : there w t pl (rs (dg z k)) := by rw [← m3]; exact hL.1 m m1
      have f1 := fr_put (w := w) (rd := rd) (nw k) (rs (dg z k)) σ
      rw [if_neg (nI_ge hlt (by omega)), if_neg (show ¬ (6 : Int32) ≤ nI k from nI_ge (b := 6) (by omega) (by omega)), if_neg (show ¬ (6 : Int32) ≤ nI k from nI_ge (b := 6) (by omega) (by omega)), if_pos (ib_nI (by omega) (by omega)), nI_clamp (by omega), hN.2 k hlt, hR k hlt, x_put hd hD (by omega) hth, bv_is, nI_1]
      obtain ⟨σ', a1, a2, a3, a4⟩ := ih (k + 1) (putS w rd (nw k) (rs (dg z k)) σ) (by omega) (by omega) (hN.fr f1 (by decide) (by decide)) (hR.fr f1 (by decide)) (hD.fr f1 (by decide) (by decide) (by decide) (by decide)) (XS_cong (fun n _ => lyM_s h f z hlt n) (XS_put hX _ _)) (NAk_s (v := fun j => rs (dg z j)) (fun j hj e2 => by
        have := hz.2.2 _ _ (by omega) hlt (h.rs_inj (hz.1 j (by omega)) (hz.1 k hlt) e2)
        omega) hA)
      exact ⟨σ', a1, f1.tr a2, a3, a4⟩
theorem x_layRow {w t : Nat} {rd pl : Nat → Nat} (hd : DOK w t rd pl) {c K : Nat} {B : Nat → Bool} {sp nw rs : Nat → Nat} {bad : Nat → Int32} (hc : c ≤ 40) (hL : LOK w t pl c sp) (h : CH c K B sp nw rs) {z : Nat} (hz : GZ K z) {f : Nat → Nat} (hf : OLD c K B sp rs f) {σ : St} (hN : NW K nw σ) (hR : RA 55 K rs z σ) (hD : XD w t rd pl σ) (hX : XL w rd c f bad σ) :
    ∃ σ', F_xX8_layRow σ = some σ' ∧ fr1 [] [26, 27, 28, 29] σ σ' ∧ XL w rd c (lyB B sp rs z) bad σ' := by
  have hK := h.1
  rw [XL_iff] at hX
  obtain ⟨σ', a1, a2, a3, a4⟩ := x_layRow2 hd hc hL h hz (f := f) (g0 := σ.2.1 29) FU 0 σ (Nat.zero_le _) (by rw [FU_is]; omega) hN hR hD (XS_cong (fun n _ => (lyM_0 B f rs z n).symm) hX.2.1) ⟨fun j hj => (by cases hj), fun s _ => rfl⟩
  refine ⟨σ', a1, a2, ?_⟩
  rw [XL_iff]
  exact ⟨(a2.1 17 (by decide)).trans hX.1, XS_cong (fun n hn => lyM_K h hf z hn) a3, XN_ly hL h hz hf hX.2.2.1 a4, fun s hs => by rw [a2.2 30 (by decide)]; exact hX.2.2.2 s hs⟩
theorem x_layRowv22 {w t : Nat} {rd pl : Nat → Nat} (hd : DOK w t rd pl) {c K : Nat} {B : Nat → Bool} {sp nw rs : Nat → Nat} (hc : c ≤ 40) (hL : LOK w t pl c sp) (h : CH c K B sp nw rs) {z : Nat} (hz : GZ K z) {f : Nat → Nat} {g0 : Nat → Int32} : ∀ (n k : Nat) (σ : St), k ≤ K → K < n + k → NW K nw σ → RA 54 K rs z σ → XD w t rd pl σ → XS w rd c (lyM B f rs z k) σ → NAk nw (fun j => rs (dg z j)) k g0 (σ.2.1 29) →
    ∃ σ', F_xX8_layRowv2_2 n (nI k) σ = some σ' ∧ fr1 [] [26, 27, 28, 29] σ σ' ∧ XS w rd c (lyM B f rs z K) σ' ∧ NAk nw (fun j => rs (dg z j)) K g0 (σ'.2.1 29) := by
  intro n
  induction n with
  | zero => intro k σ h1 h2; omega
  | succ n ih =>
    intro k σ hk hn hN hR hD hX hA
    have hK := h.1
    unfold F_xX8_layRowv2_2
    rw [hN.1]
    by_cases e : k = K
    · subst e
      rw [if_pos (nI_le (Nat.le_refl _) (by omega))]
      exact ⟨σ, rfl, fr1.rf, hX, hA⟩
    · have hlt : k < K := by omega
      have hw := h.2.1 k hlt
      obtain ⟨m, m1, m2, m3⟩ := h.of (hz.1 k hlt)
      have hth : there w t pl (rs (dg z k)) := by rw [← m3]; exact hL.1 m m1
      have f1 := fr_put (w := w) (rd := rd) (nw k) (rs (dg z k)) σ
      rw [if_neg (nI_ge hlt (by omega)), if_neg (show ¬ (6 : Int32) ≤ nI k from nI_ge (b := 6) (by omega) (by omega)), if_neg (show ¬ (6 : Int32) ≤ nI k from nI_ge (b := 6) (by omega) (by omega)), if_pos (ib_nI (by omega) (by omega)), nI_clamp (by omega), hN.2 k hlt, hR k hlt, x_put hd hD (by omega) hth, bv_is, nI_1]
      obtain ⟨σ', a1, a2, a3, a4⟩ := ih (k + 1) (putS w rd (nw k) (rs (dg z k)) σ) (by omega) (by omega) (hN.fr f1 (by decide) (by decide)) (hR.fr f1 (by decide)) (hD.fr f1 (by decide) (by decide) (by decide) (by decide)) (XS_cong (fun n _ => lyM_s h f z hlt n) (XS_put hX _ _)) (NAk_s (v := fun j => rs (dg z j)) (fun j hj e2 => by
        have := hz.2.2 _ _ (by omega) hlt (h.rs_inj (hz.1 j (by omega)) (hz.1 k hlt) e2)
        omega) hA)
      exact ⟨σ', a1, f1.tr a2, a3, a4⟩
theorem x_layRowv2 {w t : Nat} {rd pl : Nat → Nat} (hd : DOK w t rd pl) {c K : Nat} {B : Nat → Bool} {sp nw rs : Nat → Nat} {bad : Nat → Int32} (hc : c ≤ 40) (hL : LOK w t pl c sp) (h : CH c K B sp nw rs) {z : Nat} (hz : GZ K z) {f : Nat → Nat} (hf : OLD c K B sp rs f) {σ : St} (hN : NW K nw σ) (hR : RA 54 K rs z σ) (hD : XD w t rd pl σ) (hX : XL w rd c f bad σ) :
    ∃ σ', F_xX8_layRowv2 σ = some σ' ∧ fr1 [] [26, 27, 28, 29] σ σ' ∧ XL w rd c (lyB B sp rs z) bad σ' := by
  have hK := h.1
  rw [XL_iff] at hX
  obtain ⟨σ', a1, a2, a3, a4⟩ := x_layRowv22 hd hc hL h hz (f := f) (g0 := σ.2.1 29) FU 0 σ (Nat.zero_le _) (by rw [FU_is]; omega) hN hR hD (XS_cong (fun n _ => (lyM_0 B f rs z n).symm) hX.2.1) ⟨fun j hj => (by cases hj), fun s _ => rfl⟩
  refine ⟨σ', a1, a2, ?_⟩
  rw [XL_iff]
  exact ⟨(a2.1 17 (by decide)).trans hX.1, XS_cong (fun n hn => lyM_K h hf z hn) a3, XN_ly hL h hz hf hX.2.2.1 a4, fun s hs => by rw [a2.2 30 (by decide)]; exact hX.2.2.2 s hs⟩
theorem x_swapSpots {c K : Nat} {B : Nat → Bool} {sp nw rs : Nat → Nat} (h : CH c K B sp nw rs) {z a b : Nat} (ha : a < K) (hb : b < K) {σ : St} (hR : RA 54 K rs z σ) : ∃ σ', F_xX8_swapSpots (nI a) (nI b) σ = some σ' ∧ fr1 [] [54] σ σ' ∧ RA 54 K rs (swZ z a b) σ' := by
  have hK := h.1
  refine ⟨sA σ 54 (upd (upd (σ.2.1 54) a (σ.2.1 54 b)) b (σ.2.1 54 a)), ?_, fr1.rf.sA (by decide), ?_⟩
  · unfold F_xX8_swapSpots
    rw [if_pos (ib_nI (by omega) (by omega)), if_pos (ib_nI (by omega) (by omega)), nI_clamp (by omega), nI_clamp (by omega)]
  · intro i hi
    show upd (upd (σ.2.1 54) a (σ.2.1 54 b)) b (σ.2.1 54 a) i = _
    rw [u_is, u_is, swZ_dg z a b (by omega), swp_at, hR a ha, hR b hb, hR i hi]
    by_cases e1 : i = b
    · rw [if_pos e1, if_pos e1]
    · rw [if_neg e1, if_neg e1]
      by_cases e2 : i = a
      · rw [if_pos e2, if_pos e2]
      · rw [if_neg e2, if_neg e2]
theorem x_next106 {c K : Nat} {B : Nat → Bool} {sp nw rs : Nat → Nat} (h : CH c K B sp nw rs) : ∀ (n f z a b : Nat) (σ : St), b < K → b ≤ a + 2 * n → n < f → a ≤ 20 → RA 54 K rs z σ → ∃ σ', F_xX8_nextRow_106 f (nI a) (nI b) σ = some (1, σ') ∧ fr1 [] [54] σ σ' ∧ RA 54 K rs (rvF n z a b) σ' := by
  have hK := h.1
  intro n
  induction n with
  | zero =>
    intro f z a b σ hb hab hf ha hR
    match f, hf with
    | f + 1, _ =>
      unfold F_xX8_nextRow_106
      rw [if_pos (nI_le (by omega) (by omega))]
      exact ⟨σ, rfl, fr1.rf, hR⟩
  | succ n ih =>
    intro f z a b σ hb hab hf ha hR
    match f, hf with
    | f + 1, hf =>
      unfold F_xX8_nextRow_106 rvF
      by_cases e : b ≤ a
      · rw [if_pos (nI_le e (by omega)), if_pos e]
        exact ⟨σ, rfl, fr1.rf, hR⟩
      · obtain ⟨σ1, a1, a2, a3⟩ := x_swapSpots h (show a < K by omega) hb hR
        rw [if_neg (nI_ge (by omega) (by omega)), if_neg e, a1, bv_is, nI_1, nI_dec (by omega) (by omega)]
        obtain ⟨σ2, b1, b2, b3⟩ := ih f (swZ z a b) (a + 1) (b - 1) σ1 (by omega) (by omega) (by omega) (by omega) a3
        exact ⟨σ2, b1, a2.tr b2, b3⟩
theorem x_next57 {w t : Nat} {rd pl : Nat → Nat} (hd : DOK w t rd pl) {c K : Nat} {B : Nat → Bool} {sp nw rs : Nat → Nat} (hL : LOK w t pl c sp) (h : CH c K B sp nw rs) {z l : Nat} (hz : DG K z) (hl : l < K) {σ : St} (hR : RA 54 K rs z σ) : ∀ (m f : Nat), m < K → m < f → F_xX8_nextRow_57 f (nI l) (nI m) σ = F_xX8_nextRow_83 (nI l) (nI (hiF z l m)) σ := by
  have hK := h.1
  have hrs : ∀ i, i < K → rs i < 128 := by
    intro i hi
    obtain ⟨m, m1, m2, m3⟩ := h.of hi
    rw [← m3]
    exact (there_lt hd (hL.1 m m1)).1
  intro m
  induction m with
  | zero =>
    intro f hm hf
    match f, hf with
    | f + 1, _ =>
      unfold F_xX8_nextRow_57
      rw [if_pos (nI_le (Nat.zero_le _) (by omega))]
      rfl
  | succ m ih =>
    intro f hm hf
    match f, hf with
    | f + 1, hf =>
      unfold F_xX8_nextRow_57 hiF
      by_cases e : m + 1 ≤ l
      · rw [if_pos (nI_le e (by omega)), if_pos e]
      · rw [if_neg (nI_ge (by omega) (by omega)), if_neg e, if_pos (ib_nI (by omega) (by omega)), if_pos (ib_nI (by omega) (by omega)), nI_clamp (by omega), nI_clamp (by omega), hR l hl, hR _ hm]
        have h1 := hrs _ (hz l hl)
        have h2 := hrs _ (hz _ hm)
        by_cases e2 : dg z l ≤ dg z (m + 1)
        · have h3 : rs (dg z l) ≤ rs (dg z (m + 1)) := by
            rcases Nat.lt_or_ge (dg z l) (dg z (m + 1)) with q | q
            · exact Nat.le_of_lt (h.2.2.2.1 _ _ q (hz _ hm))
            · rw [show dg z l = dg z (m + 1) by omega]; exact Nat.le_refl _
          rw [if_pos (nI_le h3 (by omega)), if_pos e2]
        · have h3 := h.2.2.2.1 _ _ (show dg z (m + 1) < dg z l by omega) (hz l hl)
          rw [if_neg (nI_ge h3 (by omega)), if_neg e2, nI_dec (by omega) (by omega)]
          exact ih f (by omega) (by omega)
theorem nI_6 {K : Nat} (hK : K ≤ 6) : (if (6 : Int32) < nI K then (6 : Int32) else nI K) = nI K := by
  exact if_neg (show ¬ nI 6 < nI K from nI_nlt hK (by omega))
theorem x_next12 {w t : Nat} {rd pl : Nat → Nat} (hd : DOK w t rd pl) {c K : Nat} {B : Nat → Bool} {sp nw rs : Nat → Nat} (hL : LOK w t pl c sp) (h : CH c K B sp nw rs) {z : Nat} (hz : DG K z) {σ : St} (hN : NW K nw σ) (hR : RA 54 K rs z σ) : ∀ (l f : Nat), l < K → l < f → F_xX8_nextRow_12 f (nI l - 1) σ = if loF z l = 0 then some (0, σ) else F_xX8_nextRow_57 FU (nI (loF z l - 1)) (nI (K - 1)) σ := by
  have hK := h.1
  have hrs : ∀ i, i < K → rs i < 128 := by
    intro i hi
    obtain ⟨m, m1, m2, m3⟩ := h.of hi
    rw [← m3]
    exact (there_lt hd (hL.1 m m1)).1
  intro l
  induction l with
  | zero =>
    intro f hl hf
    match f, hf with
    | f + 1, _ =>
      unfold F_xX8_nextRow_12
      rw [if_pos (by decide)]
      unfold F_xX8_nextRow_39
      rw [if_neg (by decide)]
      rfl
  | succ l ih =>
    intro f hl hf
    match f, hf with
    | f + 1, hf =>
      unfold F_xX8_nextRow_12 loF
      rw [nI_sub1 (by omega) (by omega), show l + 1 - 1 = l by omega, nI_1, if_neg (nI_pos (by omega)), if_pos (ib_nI (by omega) (by omega)), if_pos (ib_nI (by omega) (by omega)), nI_clamp (by omega), nI_clamp (by omega), hR l (by omega), hR _ hl]
      have h1 := hrs _ (hz l (by omega))
      have h2 := hrs _ (hz _ hl)
      by_cases e2 : dg z l ≤ dg z (l + 1)
      · have h3 : rs (dg z l) ≤ rs (dg z (l + 1)) := by
          rcases Nat.lt_or_ge (dg z l) (dg z (l + 1)) with q | q
          · exact Nat.le_of_lt (h.2.2.2.1 _ _ q (hz _ hl))
          · rw [show dg z l = dg z (l + 1) by omega]; exact Nat.le_refl _
        rw [if_pos (nI_le h3 (by omega)), if_pos e2, if_neg (by omega)]
        unfold F_xX8_nextRow_39
        rw [if_pos (nI_pos' (by omega)), hN.1, nI_6 hK, nI_sub1 (by omega) (by omega)]
        rfl
      · have h3 := h.2.2.2.1 _ _ (show dg z (l + 1) < dg z l by omega) (hz l (by omega))
        rw [if_neg (nI_ge h3 (by omega)), if_neg e2, ← Int32.sub_eq_add_neg]
        exact ih f (by omega) (by omega)
theorem lo_le (z : Nat) : ∀ l, loF z l ≤ l
  | 0 => Nat.le_refl _
  | l + 1 => by
    unfold loF
    split
    · exact Nat.le_refl _
    · exact Nat.le_succ_of_le (lo_le z l)
theorem hi_le (z l : Nat) : ∀ m, hiF z l m ≤ m
  | 0 => Nat.le_refl _
  | m + 1 => by
    unfold hiF
    split
    · exact Nat.le_refl _
    · split
      · exact Nat.le_refl _
      · exact Nat.le_succ_of_le (hi_le z l m)
theorem x_nextRow {w t : Nat} {rd pl : Nat → Nat} (hd : DOK w t rd pl) {c K : Nat} {B : Nat → Bool} {sp nw rs : Nat → Nat} (hL : LOK w t pl c sp) (h : CH c K B sp nw rs) (hK1 : 1 ≤ K) {z : Nat} (hz : DG K z) {σ : St} (hN : NW K nw σ) (hR : RA 54 K rs z σ) : (loF z (K - 1) = 0 ∧ F_xX8_nextRow σ = some (0, σ)) ∨ (loF z (K - 1) ≠ 0 ∧ ∃ σ', F_xX8_nextRow σ = some (1, σ') ∧ fr1 [] [54] σ σ' ∧ RA 54 K rs (nxZ K z (loF z (K - 1) - 1)) σ') := by
  have hK := h.1
  have e : F_xX8_nextRow σ = F_xX8_nextRow_12 FU (nI (K - 1) - 1) σ := by
    unfold F_xX8_nextRow
    rw [hN.1, nI_6 hK, ← nI_sub1 hK1 (by omega)]
    congr 1
    rw [Int32.sub_eq_add_neg, Int32.sub_eq_add_neg, Int32.sub_eq_add_neg, Int32.add_assoc]
    rfl
  rw [e, x_next12 hd hL h hz hN hR (K - 1) FU (by omega) (by rw [FU_is]; omega)]
  have hle := lo_le z (K - 1)
  by_cases e0 : loF z (K - 1) = 0
  · left
    rw [if_pos e0]
    exact ⟨e0, rfl⟩
  · right
    refine ⟨e0, ?_⟩
    rw [if_neg e0, x_next57 hd hL h hz (by omega) hR (K - 1) FU (by omega) (by rw [FU_is]; omega)]
    have hh := hi_le z (loF z (K - 1) - 1) (K - 1)
    obtain ⟨σ1, a1, a2, a3⟩ := x_swapSpots h (a := loF z (K - 1) - 1) (b := hiF z (loF z (K - 1) - 1) (K - 1)) (by omega) (by omega) hR
    have hN1 := hN.fr a2 (by decide) (by decide)
    obtain ⟨σ2, b1, b2, b3⟩ := x_next106 h 6 FU _ (loF z (K - 1) - 1 + 1) (K - 1) σ1 (by omega) (by omega) (by rw [FU_is]; omega) (by omega) a3
    refine ⟨σ2, ?_, a2.tr b2, b3⟩
    unfold F_xX8_nextRow_83
    rw [a1, bv_is, hN1.1, nI_6 hK, nI_1, nI_sub1 hK1 (by omega)]
    exact b1
