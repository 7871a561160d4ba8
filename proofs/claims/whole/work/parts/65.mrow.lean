/-! best: the reference -/
theorem or_bit : ∀ u, u < 64 → ∀ p, p < 6 → u.testBit p = false → nI u ||| (1 <<< (nI p &&& 31)) = nI (u + 2 ^ p) := by decide +kernel
theorem m_row44 (b12 : Int32 → Int32 → Int32 → Int32 → Int32 → St → Option St) (L P : Int32) {K k u : Nat} (hu : u < 64) (hk : k < 6) {a : Nat} (ha : a < 40) {τ : St} (h24 : τ.2.1 24 k = nI a) : ∀ (n f s i : Nat), i + n = 6 → n < f → s < 2 ^ 31 → pkF u n s i < 6 → F_mX11_rowOf_44 b12 f (nI K) L P (nI u) (nI k) (nI s) (nI i) τ = b12 (nI K) L P (nI u ||| (1 <<< (nI (pkF u n s i) &&& 31))) (nI (k + 1)) (sA τ 7 (upd (τ.2.1 7) a (τ.2.1 25 (pkF u n s i)))) := by
  intro n
  induction n with
  | zero => intro f s i h1 h2 hs h3; unfold pkF at h3; omega
  | succ n ih =>
    intro f s i h1 h2 hs h3
    match f, h2 with
    | f + 1, h2 =>
      have e1 : pkF u (n + 1) s i = if u.testBit i then pkF u n s (i + 1) else if s = 0 then i else pkF u n (s - 1) (i + 1) := rfl
      unfold F_mX11_rowOf_44
      cases hb : u.testBit i with
      | true =>
        rw [hb, if_pos rfl] at e1
        rw [e1] at h3 ⊢
        rw [if_pos ((bit_1 (by omega) (by omega)).mpr hb)]
        unfold F_mX11_rowOf_60
        rw [if_neg (fun q => by rw [bit_0 (by omega) (by omega), hb] at q; cases q), nI_1]
        exact ih f s (i + 1) (by omega) (by omega) hs h3
      | false =>
        rw [hb, if_neg (by decide)] at e1
        rw [if_neg (fun q => by rw [bit_1 (by omega) (by omega), hb] at q; cases q)]
        by_cases e : s = 0
        · rw [if_pos e] at e1
          rw [e1, if_pos (by rw [e]; decide), if_pos (ib_nI hk (by omega)), if_pos (ib_nI (by omega) (by omega)), nI_clamp (by omega), h24, if_pos (ib_nI ha (by omega)), nI_clamp (by omega), nI_clamp (by omega), nI_1]
        · rw [if_neg e] at e1
          rw [e1] at h3 ⊢
          rw [if_neg (show ¬ nI s ≤ (0 : Int32) from nI_ge (a := 0) (by omega) (by omega))]
          unfold F_mX11_rowOf_60
          rw [if_pos ((bit_0 (by omega) (by omega)).mpr hb), nI_1, nI_dec (by omega) (by omega)]
          exact ih f (s - 1) (i + 1) (by omega) (by omega) (by omega) h3
def NM (K : Nat) (nw : Nat → Nat) (τ : St) : Prop := ∀ k, k < K → τ.2.1 24 k = nI (nw k)
theorem NM.fr {K : Nat} {nw : Nat → Nat} {τ τ' : St} {S Q : List Nat} (h : NM K nw τ) (hf : fr1 S Q τ τ') (hQ : 24 ∉ Q) : NM K nw τ' := fun k hk => by rw [hf.2 24 hQ]; exact h k hk
theorem m_row12 {c K : Nat} {B : Nat → Bool} {sp nw rs : Nat → Nat} (hc : c ≤ 40) (h : CH c K B sp nw rs) : ∀ (m k f left part u : Nat) (τ : St), k + m = K → m < f → left < 2 ^ 31 → part < 2 ^ 31 → u < 64 → ckF m left part u = true → NM K nw τ →
    ∃ τ', F_mX11_rowOf_12 f (nI K) (nI left) (nI part) (nI u) (nI k) τ = some τ' ∧ fr1 [] [7] τ τ' ∧ ∀ n, n < c → τ'.2.1 7 n = if B n = true ∧ k ≤ fb_ct B n then τ.2.1 25 (dg (urF m left part u) (fb_ct B n - k)) else τ.2.1 7 n := by
  have hK := h.1
  intro m
  induction m with
  | zero =>
    intro k f left part u τ hkm hf _ _ _ _ hN
    match f, hf with
    | f + 1, _ =>
      unfold F_mX11_rowOf_12
      rw [if_pos (nI_le (by omega) (by omega))]
      refine ⟨τ, rfl, fr1.rf, fun n hn => ?_⟩
      rw [if_neg]
      intro q
      have := h.2.2.1 n hn q.1
      omega
  | succ m ih =>
    intro k f left part u τ hkm hf hl hp hu hck hN
    match f, hf with
    | f + 1, hf =>
      unfold ckF at hck
      simp only [Bool.and_eq_true, decide_eq_true_eq, Bool.not_eq_true'] at hck
      obtain ⟨⟨⟨⟨c1, c2⟩, c3⟩, c4⟩, c5⟩ := hck
      have hk : k < K := by omega
      have hw := h.2.1 k hk
      have hpd : part / (m + 1) < 2 ^ 31 := Nat.lt_of_le_of_lt (Nat.div_le_self _ _) hp
      have hld : left / (part / (m + 1)) < 2 ^ 31 := Nat.lt_of_le_of_lt (Nat.div_le_self _ _) hl
      have hmul := Nat.div_mul_le_self left (part / (m + 1))
      have hmod : left - left / (part / (m + 1)) * (part / (m + 1)) = left % (part / (m + 1)) := by
        have := Nat.div_add_mod left (part / (m + 1))
        rw [Nat.mul_comm] at this
        omega
      have hkm1 : K - k = m + 1 := by omega
      unfold F_mX11_rowOf_12
      rw [if_neg (nI_ge hk (by omega)), pk_sub (by omega), hkm1, if_neg (nI_ne0 (by omega) (by omega)), pk_div hp (by omega) (by omega), if_neg (nI_ne0 (Nat.pos_of_ne_zero c1) hpd), pk_div hl (Nat.pos_of_ne_zero c1) hpd, pk_mul, pk_sub hmul, hmod]
      rw [show F_mX11_rowOf_44 (F_mX11_rowOf_12 f) FU (nI K) (nI (left % (part / (m + 1)))) (nI (part / (m + 1))) (nI u) (nI k) (nI (left / (part / (m + 1)))) 0 τ = _ from m_row44 (F_mX11_rowOf_12 f) (nI (left % (part / (m + 1)))) (nI (part / (m + 1))) hu (by omega) (show nw k < 40 by omega) (hN k hk) 6 FU (left / (part / (m + 1))) 0 rfl (by rw [FU_is]; omega) hld c2, or_bit u hu _ c2 c4]
      obtain ⟨p, hpe⟩ : ∃ p, p = pkF u 6 (left / (part / (m + 1))) 0 := ⟨_, rfl⟩
      rw [← hpe] at c2 c3 c4 c5 ⊢
      have f1 : fr1 [] [7] τ (sA τ 7 (upd (τ.2.1 7) (nw k) (τ.2.1 25 p))) := fr1.rf.sA (by decide)
      obtain ⟨τ', a1, a2, a3⟩ := ih (k + 1) f (left % (part / (m + 1))) (part / (m + 1)) (u + 2 ^ p) _ (by omega) (by omega) (Nat.lt_of_le_of_lt (Nat.mod_le _ _) hl) hpd c3 c5 (hN.fr f1 (by decide))
      refine ⟨τ', a1, f1.tr a2, fun n hn => ?_⟩
      rw [a3 n hn]
      have hu2 : urF (m + 1) left part u = p + 8 * urF m (left % (part / (m + 1))) (part / (m + 1)) (u + 2 ^ p) := by
        show pkF u 6 (left / (part / (m + 1))) 0 + 8 * urF m (left % (part / (m + 1))) (part / (m + 1)) (u + 2 ^ pkF u 6 (left / (part / (m + 1))) 0) = _
        rw [← hpe]
      show (if B n = true ∧ k + 1 ≤ fb_ct B n then τ.2.1 25 (dg (urF m (left % (part / (m + 1))) (part / (m + 1)) (u + 2 ^ p)) (fb_ct B n - (k + 1))) else upd (τ.2.1 7) (nw k) (τ.2.1 25 p) n) = _
      rw [hu2, u_is]
      by_cases e1 : B n = true ∧ k + 1 ≤ fb_ct B n
      · rw [if_pos e1, if_pos ⟨e1.1, by omega⟩, show fb_ct B n - k = fb_ct B n - (k + 1) + 1 by omega, dg_s (by omega)]
      · rw [if_neg e1]
        by_cases e2 : n = nw k
        · have h2 := (h.nw_iff hk n).mp e2
          rw [if_pos e2, if_pos ⟨h2.1, by omega⟩, h2.2, show k - k = 0 by omega, dg_0 (by omega)]
        · rw [if_neg e2, if_neg]
          intro q
          by_cases e3 : fb_ct B n = k
          · exact e2 ((h.nw_iff hk n).mpr ⟨q.1, e3⟩)
          · exact e1 ⟨q.1, by omega⟩
/-- a laying that only moves the chosen names -/
def OLM (c : Nat) (B : Nat → Bool) (sp : Nat → Nat) (τ : St) : Prop := ∀ n, n < c → B n = false → τ.2.1 7 n = nI (sp n)
theorem m_rowOf {c K : Nat} {B : Nat → Bool} {sp nw rs : Nat → Nat} (hc : c ≤ 40) (h : CH c K B sp nw rs) {r : Nat} (hr : r < fct K) {τ : St} (hN : NM K nw τ) (h25 : ∀ i, i < K → τ.2.1 25 i = nI (rs i)) (hO : OLM c B sp τ) : ∃ τ', F_mX11_rowOf (nI r) (nI K) (nI (fct K)) τ = some τ' ∧ fr1 [] [7] τ τ' ∧ ∀ n, n < c → τ'.2.1 7 n = nI (lyB B sp rs (urZ K r) n) := by
  have hK := h.1
  have hf := fct_le K (by omega)
  obtain ⟨τ', a1, a2, a3⟩ := m_row12 hc h K 0 FU r (fct K) 0 τ (by omega) (by rw [FU_is]; omega) (by omega) (by omega) (by omega) (ur_ck K (by omega) r hr) hN
  refine ⟨τ', a1, a2, fun n hn => ?_⟩
  rw [a3 n hn]
  unfold lyB
  cases hB : B n with
  | false => rw [if_neg (fun q => by cases q.1), if_neg (by decide)]; exact hO n hn hB
  | true =>
    rw [if_pos ⟨rfl, Nat.zero_le _⟩, if_pos rfl, show fb_ct B n - 0 = fb_ct B n from rfl]
    exact h25 _ (ur_dg K (by omega) r hr _ (h.2.2.1 n hn hB))
theorem m_best265 {c K : Nat} {B : Nat → Bool} {sp nw rs : Nat → Nat} (hc : c ≤ 40) (h : CH c K B sp nw rs) (b220 : Int32 → Int32 → Int32 → Int32 → St → Option (Int32 × St)) (x4 x5 x6 : Int32) {g : Nat → Nat} : ∀ (f k : Nat) (τ : St), k ≤ K → K < f + k → NM K nw τ → (∀ n, n < c → τ.2.1 7 n = nI (g n)) → (∀ j, j < k → τ.2.1 26 j = nI (g (nw j))) →
    ∃ τ', F_mX11_best_265 b220 f (nI K) x4 x5 x6 (nI k) τ = b220 (nI K) x4 x5 (x6 + 1) τ' ∧ fr1 [] [26] τ τ' ∧ ∀ j, j < K → τ'.2.1 26 j = nI (g (nw j)) := by
  have hK := h.1
  intro f
  induction f with
  | zero => intro k τ h1 h2; omega
  | succ f ih =>
    intro k τ hk hf hN h7 h26
    unfold F_mX11_best_265
    by_cases e : k = K
    · subst e
      rw [if_pos (nI_le (Nat.le_refl _) (by omega))]
      exact ⟨τ, rfl, fr1.rf, h26⟩
    · have hlt : k < K := by omega
      have hw := h.2.1 k hlt
      rw [if_neg (nI_ge hlt (by omega)), if_pos (ib_nI (by omega) (by omega)), nI_clamp (by omega), hN k hlt, if_pos (ib_nI (by omega) (by omega)), nI_clamp (by omega), h7 _ hw.1, nI_1]
      have f1 : fr1 [] [26] τ (sA τ 26 (upd (τ.2.1 26) k (nI (g (nw k))))) := fr1.rf.sA (by decide)
      obtain ⟨τ', a1, a2, a3⟩ := ih (k + 1) _ (by omega) (by omega) (hN.fr f1 (by decide)) h7 (fun j hj => by
        show upd (τ.2.1 26) k (nI (g (nw k))) j = _
        rw [u_is]
        by_cases e2 : j = k
        · rw [if_pos e2, e2]
        · rw [if_neg e2]; exact h26 j (by omega))
      exact ⟨τ', a1, f1.tr a2, a3⟩
theorem m_best305 {c K : Nat} {B : Nat → Bool} {sp nw rs : Nat → Nat} (hc : c ≤ 40) (h : CH c K B sp nw rs) (x5 : Int32) {z : Nat} (hz : GZ K z) : ∀ (f k : Nat) (τ : St), k ≤ K → K < f + k → NM K nw τ → (∀ n, n < c → B n = false ∨ fb_ct B n < k → τ.2.1 7 n = nI (lyB B sp rs z n)) → (∀ j, j < K → τ.2.1 26 j = nI (lyB B sp rs z (nw j))) →
    ∃ τ', F_mX11_best_305 f (nI K) x5 (nI k) τ = some (x5, τ') ∧ fr1 [] [7] τ τ' ∧ ∀ n, n < c → τ'.2.1 7 n = nI (lyB B sp rs z n) := by
  have hK := h.1
  intro f
  induction f with
  | zero => intro k τ h1 h2; omega
  | succ f ih =>
    intro k τ hk hf hN h7 h26
    unfold F_mX11_best_305
    by_cases e : k = K
    · subst e
      rw [if_pos (nI_le (Nat.le_refl _) (by omega))]
      refine ⟨τ, rfl, fr1.rf, fun n hn => h7 n hn ?_⟩
      cases hB : B n with
      | false => exact Or.inl rfl
      | true => exact Or.inr (h.2.2.1 n hn hB)
    · have hlt : k < K := by omega
      have hw := h.2.1 k hlt
      rw [if_neg (nI_ge hlt (by omega)), if_pos (ib_nI (by omega) (by omega)), nI_clamp (by omega), hN k hlt, if_pos (ib_nI (by omega) (by omega)), nI_clamp (by omega), h26 k hlt, nI_1]
      have f1 : fr1 [] [7] τ (sA τ 7 (upd (τ.2.1 7) (nw k) (nI (lyB B sp rs z (nw k))))) := fr1.rf.sA (by decide)
      obtain ⟨τ', a1, a2, a3⟩ := ih (k + 1) _ (by omega) (by omega) (hN.fr f1 (by decide)) (fun n hn hc2 => by
        show upd (τ.2.1 7) (nw k) (nI (lyB B sp rs z (nw k))) n = _
        rw [u_is]
        by_cases e2 : n = nw k
        · rw [if_pos e2, e2]
        · rw [if_neg e2]
          refine h7 n hn ?_
          cases hB : B n with
          | false => exact Or.inl rfl
          | true =>
            right
            rcases hc2 with q | q
            · rw [hB] at q; cases q
            · by_cases e3 : fb_ct B n = k
              · exact absurd ((h.nw_iff hlt n).mpr ⟨hB, e3⟩) e2
              · omega) h26
      exact ⟨τ', a1, f1.tr a2, a3⟩
abbrev SM : List Nat := [16, 17, 18, 19, 20, 21, 22]
abbrev QM : List Nat := [7, 14, 15, 16, 17, 18, 19, 20, 26]
theorem m_best220 {w t : Nat} {rd pl : Nat → Nat} (hd : DOK w t rd pl) {c K en : Nat} {val : Nat → Int32} {B : Nat → Bool} {sp nw rs : Nat → Nat} (hc : c ≤ 40) (hen : en < c) (hL : LOK w t pl c sp) (h : CH c K B sp nw rs) {T : Nat → Nat} (hT : ∀ r, T r = tmS w rd c en val (lyB B sp rs (urZ K r))) : ∀ (f r : Nat) (τ : St), r ≤ fct K → fct K < f + r → NM K nw τ → (∀ i, i < K → τ.2.1 25 i = nI (rs i)) → OLM c B sp τ → (∀ b, bsF T r = some b → ∀ j, j < K → τ.2.1 26 j = nI (lyB B sp rs (urZ K b.2) (nw j))) → MD w t rd pl τ → MP c en val τ →
    ∃ τ' b, F_mX11_best_220 f (nI K) (nI (fct K)) (bT (bsF T r)) (nI r) τ = some (nI b.1, τ') ∧ bsF T (fct K) = some b ∧ fr1 SM QM τ τ' ∧ ∀ n, n < c → τ'.2.1 7 n = nI (lyB B sp rs (urZ K b.2) n) := by
  have hK := h.1
  have hf720 := fct_le K (by omega)
  have hfp := fct_pos K
  intro f
  induction f with
  | zero => intro r τ h1 h2; omega
  | succ f ih =>
    intro r τ hr hf hN h25 hO h26 hD hP
    unfold F_mX11_best_220
    by_cases e : r = fct K
    · subst e
      rw [if_pos (nI_le (Nat.le_refl _) (by omega))]
      obtain ⟨b, hb⟩ := bs_some T (fct K - 1)
      rw [show fct K - 1 + 1 = fct K by omega] at hb
      have hb2 := bs_ok T _ b hb
      obtain ⟨τ1, a1, a2, a3⟩ := m_best305 hc h (nI b.1) (GZ_ur (K := K) (by omega) hb2.1) FU 0 τ (Nat.zero_le _) (by rw [FU_is]; omega) hN (fun n hn q => by
        rcases q with q | q
        · rw [hO n hn q]
          unfold lyB
          rw [q, if_neg (by decide)]
        · cases q) (h26 b hb)
      refine ⟨τ1, b, ?_, hb, a2.wk (by decide) (by decide), a3⟩
      rw [hb]
      exact a1
    · have hlt : r < fct K := by omega
      have hz := GZ_ur (K := K) (by omega) hlt
      obtain ⟨τ1, a1, a2, a3⟩ := m_rowOf hc h hlt hN h25 hO
      have f1 : fr1 SM QM τ τ1 := a2.wk (by decide) (by decide)
      have hLz := LOK_ly hL h hz
      have htm := tmS_le (rd := rd) (en := en) (val := val) hd hc hen hLz.1
      rw [← hT r] at htm
      obtain ⟨τ2, b1, b2⟩ := m_timeNow hd hLz.1 hc hen (hD.fr f1 (by decide) (by decide) (by decide) (by decide)) (hP.fr f1 (by decide) (by decide) (by decide)) a3
      rw [← hT r] at b1
      have f2 : fr1 SM QM τ τ2 := f1.tr (b2.wk (by decide) (by decide))
      have h72 : ∀ n, n < c → τ2.2.1 7 n = nI (lyB B sp rs (urZ K r) n) := fun n hn => by rw [b2.2 7 (by decide)]; exact a3 n hn
      have hO2 : OLM c B sp τ2 := fun n hn hB => by
        rw [h72 n hn]
        unfold lyB
        rw [hB, if_neg (by decide)]
      have hN2 := hN.fr f2 (by decide)
      have h25' : ∀ i, i < K → τ2.2.1 25 i = nI (rs i) := fun i hi => by rw [f2.2 25 (by decide)]; exact h25 i hi
      have h262 : ∀ b, bsF T r = some b → ∀ j, j < K → τ2.2.1 26 j = nI (lyB B sp rs (urZ K b.2) (nw j)) := fun b hb j hj => by
        rw [b2.2 26 (by decide), a2.2 26 (by decide)]
        exact h26 b hb j hj
      have hD2 := hD.fr f2 (by decide) (by decide) (by decide) (by decide)
      have hP2 := hP.fr f2 (by decide) (by decide) (by decide)
      rw [if_neg (nI_ge hlt (by omega)), a1, bv_is, b1, bd_is]
      have better : bsF T (r + 1) = some (T r, r) → ∃ τ' b, F_mX11_best_265 (F_mX11_best_220 f) FU (nI K) (nI (fct K)) (nI (T r)) (nI r) 0 τ2 = some (nI b.1, τ') ∧ bsF T (fct K) = some b ∧ fr1 SM QM τ τ' ∧ ∀ n, n < c → τ'.2.1 7 n = nI (lyB B sp rs (urZ K b.2) n) := by
        intro e2
        obtain ⟨τ3, c1, c2, c3⟩ := m_best265 hc h (F_mX11_best_220 f) (nI (fct K)) (nI (T r)) (nI r) FU 0 τ2 (Nat.zero_le _) (by rw [FU_is]; omega) hN2 h72 (fun j hj => by cases hj)
        have f3 : fr1 SM QM τ τ3 := f2.tr (c2.wk (by decide) (by decide))
        obtain ⟨τ', b, d1, d2, d3, d4⟩ := ih (r + 1) τ3 (by omega) (by omega) (hN2.fr c2 (by decide)) (fun i hi => by rw [c2.2 25 (by decide)]; exact h25' i hi) (fun n hn hB => by rw [c2.2 7 (by decide)]; exact hO2 n hn hB) (fun b hb j hj => by
          rw [e2] at hb
          cases hb
          exact c3 j hj) (hD2.fr c2 (by decide) (by decide) (by decide) (by decide)) (hP2.fr c2 (by decide) (by decide) (by decide))
        rw [e2] at d1
        refine ⟨τ', b, ?_, d2, f3.tr d3, d4⟩
        rw [← d1, ← nI_1]
        exact c1
      cases hb : bsF T r with
      | none =>
        rw [show bT none = -1 from rfl, if_pos rfl]
        refine better ?_
        show (match bsF T r with | none => some (T r, r) | some b => if T r < b.1 then some (T r, r) else some b) = _
        rw [hb]
      | some b =>
        have hbk := bs_ok T r b hb
        have hbt : b.1 ≤ 260000 := by
          rw [hbk.2, hT]
          exact tmS_le (rd := rd) (en := en) (val := val) hd hc hen (LOK_ly hL h (GZ_ur (K := K) (by omega) (show b.2 < fct K by omega))).1
        rw [show bT (some b) = nI b.1 from rfl, if_neg (m1_ne _ (by omega))]
        have e3 : bsF T (r + 1) = if T r < b.1 then some (T r, r) else some b := by
          show (match bsF T r with | none => some (T r, r) | some b => if T r < b.1 then some (T r, r) else some b) = _
          rw [hb]
        by_cases hlt2 : T r < b.1
        · rw [if_pos (nI_lt hlt2 (by omega))]
          rw [if_pos hlt2] at e3
          exact better e3
        · rw [if_neg (nI_nlt (by omega) (by omega)), nI_1]
          rw [if_neg hlt2] at e3
          obtain ⟨τ', b', d1, d2, d3, d4⟩ := ih (r + 1) τ2 (by omega) (by omega) hN2 h25' hO2 (by rw [e3, ← hb]; exact h262) hD2 hP2
          rw [e3] at d1
          exact ⟨τ', b', d1, d2, f2.tr d3, d4⟩
