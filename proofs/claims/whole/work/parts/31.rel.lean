/-! the state in words: q; what class (AX) and reference (AM) hold of it -/
abbrev Ab : Type := (Nat → Nat) × (Nat → Nat → Nat) × (Nat → Int32) × (Nat → Nat → Int32)
def aN (q : Ab) (k v : Nat) : Ab := (vf_upd q.1 k v, q.2)
def aF (q : Ab) (k : Nat) (f : Nat → Nat) : Ab := (q.1, vf_upd q.2.1 k f, q.2.2)
def aI (q : Ab) (k : Nat) (v : Int32) : Ab := (q.1, q.2.1, vf_upd q.2.2.1 k v, q.2.2.2)
def aG (q : Ab) (k : Nat) (f : Nat → Int32) : Ab := (q.1, q.2.1, q.2.2.1, vf_upd q.2.2.2 k f)
/-- how many spots are there -/
def nsp (pl : Nat → Nat) : Nat → Nat
  | 0 => 0
  | k + 1 => nsp pl k + pl k
/-- a spot that is there -/
def there (w t : Nat) (pl : Nat → Nat) (s : Nat) : Prop := s < t * w ∧ s % w < pl (s / w)
def DOK (w t : Nat) (rd pl : Nat → Nat) : Prop := 8 ≤ w ∧ w ≤ 32 ∧ 1 ≤ t ∧ t ≤ 4 ∧ ∀ k, k < t → 1 ≤ rd k ∧ rd k ≤ w ∧ 1 ≤ pl k ∧ pl k ≤ w
def POK (t : Nat) (pl : Nat → Nat) (c en : Nat) : Prop := c ≤ 40 ∧ c ≤ nsp pl t ∧ (en < c ∨ (c = 0 ∧ en = 0))
def LOK (w t : Nat) (pl : Nat → Nat) (c : Nat) (sp : Nat → Nat) : Prop := (∀ n, n < c → there w t pl (sp n)) ∧ ∀ m n, m < c → n < c → sp m = sp n → m = n
def BOK (bad : Nat → Int32) : Prop := ∀ s, s < 128 → bad s = 0 ∨ bad s = 1
def KOK (w t : Nat) (pl : Nat → Nat) (c : Nat) (ik : Nat → Int32) (kp : Nat → Nat) : Prop := ∀ k, k < 4 → (ik k = 0 ∨ ik k = 1) ∧ (ik k = 1 → 0 < c ∧ LOK w t pl c (fun n => kp (40 * k + n)))
def JOK (j : Nat) (jt jd : Nat → Nat) : Prop := j ≤ 8 ∧ ∀ k, k < j → 1 ≤ jt k ∧ jt k ≤ 9999 ∧ 1 ≤ jd k ∧ jd k ≤ 99999
/-- how many live at the first step of n -/
def ovl (f4 f5 : Nat → Int32) (n : Nat) : Nat → Nat
  | 0 => 0
  | k + 1 => ovl f4 f5 n k + if f4 k ≠ -1 ∧ f4 k ≤ f4 n ∧ f4 n ≤ f5 k then 1 else 0
/-- how many spots are needed -/
def needN (f4 f5 : Nat → Int32) (c : Nat) : Nat → Nat
  | 0 => 0
  | k + 1 => if f4 k = -1 then needN f4 f5 c k else max (needN f4 f5 c k) (ovl f4 f5 k c)
def ROK (c : Nat) (wr nd : Int32) (rr rf : Nat → Int32) : Prop := (wr = 0 ∨ wr = 1) ∧ (wr = 0 → nd = 0) ∧ (wr = 1 → nd = nI (needN (fun n => rf (8 * n + 4)) (fun n => rf (8 * n + 5)) c c) ∧ 0 < c)
def OKq (q : Ab) : Prop := q.1 0 ≤ 1200 ∧ DOK (q.1 1) (q.1 2) (q.2.1 0) (q.2.1 1) ∧ POK (q.1 2) (q.2.1 1) (q.1 3) (q.1 4) ∧ LOK (q.1 1) (q.1 2) (q.2.1 1) (q.1 3) (q.2.1 2) ∧ BOK (q.2.2.2 2) ∧ KOK (q.1 1) (q.1 2) (q.2.1 1) (q.1 3) (q.2.2.2 3) (q.2.1 5) ∧ JOK (q.1 5) (q.2.1 3) (q.2.1 4) ∧ ROK (q.1 3) (q.2.2.1 2) (q.2.2.1 3) (q.2.2.2 4) (q.2.2.2 6)
def XT (L : Nat) (bt : Nat → Int32) (fk fp : Int32) (σ : St) : Prop := σ.1 0 = nI L ∧ (∀ j, j < 1200 → σ.2.1 2 j = bt j) ∧ σ.1 5 = fk ∧ σ.1 6 = fp
def MT (L : Nat) (bt : Nat → Int32) (fk fp : Int32) (τ : St) : Prop := τ.1 0 = nI L ∧ (∀ j, j < 1200 → τ.2.1 1 j = bt j) ∧ τ.1 6 = fk ∧ τ.1 7 = fp
def XD (w t : Nat) (rd pl : Nat → Nat) (σ : St) : Prop := σ.1 7 = nI w ∧ σ.1 8 = nI t ∧ ∀ k, k < t → σ.2.1 4 k = nI (rd k) ∧ σ.2.1 5 k = nI (pl k)
def MD (w t : Nat) (rd pl : Nat → Nat) (τ : St) : Prop := τ.1 8 = nI w ∧ τ.1 9 = nI t ∧ ∀ k, k < t → τ.2.1 2 k = nI (rd k) ∧ τ.2.1 3 k = nI (pl k)
def XP (c en : Nat) (val : Nat → Int32) (σ : St) : Prop := σ.1 11 = nI c ∧ σ.1 12 = nI en ∧ ∀ n, n < c → σ.2.1 11 n = val n
def MP (c en : Nat) (val : Nat → Int32) (τ : St) : Prop := τ.1 12 = nI c ∧ τ.1 13 = nI en ∧ ∀ n, n < c → τ.2.1 6 n = val n
def XL (w : Nat) (rd : Nat → Nat) (c : Nat) (sp : Nat → Nat) (bad : Nat → Int32) (σ : St) : Prop := σ.1 17 = nI c ∧ (∀ n, n < c → σ.2.1 26 n = nI (sp n) ∧ σ.2.1 27 n = nI (sp n % w % rd (sp n / w)) ∧ σ.2.1 28 n = nI (rd (sp n / w)) ∧ σ.2.1 29 (sp n) = nI n) ∧ (∀ s, s < 128 → (∀ n, n < c → sp n ≠ s) → σ.2.1 29 s = -1) ∧ ∀ s, s < 128 → σ.2.1 30 s = bad s
def ML (c : Nat) (sp : Nat → Nat) (bad : Nat → Int32) (τ : St) : Prop := (∀ n, n < c → τ.2.1 7 n = nI (sp n)) ∧ ∀ s, s < 128 → τ.2.1 4 s = bad s
def XK1 (c : Nat) (i : Int32) (kp : Nat → Nat) (k : Nat) (ar : Nat → Int32) : Prop := i = 1 → ∀ n, n < c → ar n = nI (kp (40 * k + n))
def XK (c : Nat) (ik : Nat → Int32) (kp : Nat → Nat) (σ : St) : Prop := (∀ k, k < 4 → σ.2.1 36 k = ik k) ∧ XK1 c (ik 0) kp 0 (σ.2.1 32) ∧ XK1 c (ik 1) kp 1 (σ.2.1 33) ∧ XK1 c (ik 2) kp 2 (σ.2.1 34) ∧ XK1 c (ik 3) kp 3 (σ.2.1 35)
def MK (c : Nat) (ik : Nat → Int32) (kp : Nat → Nat) (τ : St) : Prop := ∀ k, k < 4 → τ.2.1 27 k = ik k ∧ (ik k = 1 → ∀ n, n < c → τ.2.1 28 (40 * k + n) = nI (kp (40 * k + n)))
def XR (c : Nat) (wr nd : Int32) (rr pr rf : Nat → Int32) (σ : St) : Prop := σ.1 23 = wr ∧ σ.1 30 = nd ∧ (wr = 1 → (σ.1 24 = rr 0 ∧ σ.1 25 = rr 1 ∧ σ.1 26 = rr 2 ∧ σ.1 27 = rr 3 ∧ σ.1 28 = rr 4 ∧ σ.1 29 = rr 5) ∧ (∀ j, j < 100 → nI j < rr 3 → σ.2.1 42 j = pr j) ∧ ∀ n, n < c → σ.2.1 43 n = rf (8 * n + 0) ∧ σ.2.1 44 n = rf (8 * n + 1) ∧ σ.2.1 45 n = rf (8 * n + 2) ∧ σ.2.1 46 n = rf (8 * n + 3) ∧ σ.2.1 48 n = rf (8 * n + 4) ∧ σ.2.1 49 n = rf (8 * n + 5) ∧ σ.2.1 47 n = rf (8 * n + 6) ∧ σ.2.1 50 n = rf (8 * n + 7))
def MR (c : Nat) (wr : Int32) (rr pr rf : Nat → Int32) (τ : St) : Prop := τ.1 23 = wr ∧ (wr = 1 → τ.1 24 = nI c ∧ (∀ k, k < 6 → τ.2.1 21 k = rr k) ∧ (∀ j, j < 100 → nI j < rr 3 → τ.2.1 22 j = pr j) ∧ ∀ n, n < c → ∀ k, k < 8 → τ.2.1 23 (8 * n + k) = rf (8 * n + k))
def XJ (j : Nat) (jt jd : Nat → Nat) (σ : St) : Prop := σ.1 32 = nI j ∧ (∀ k, k < j → σ.2.1 57 k = nI (jt k) ∧ σ.2.1 58 k = nI (jd k)) ∧ ∃ od : Nat → Nat, (∀ k, k < j → σ.2.1 59 k = nI (od k) ∧ od k < j) ∧ ∀ a b, a < b → b < j → jd (od a) < jd (od b) ∨ (jd (od a) = jd (od b) ∧ od a < od b)
def MJ (j : Nat) (jt jd : Nat → Nat) (τ : St) : Prop := τ.1 25 = nI j ∧ ∀ k, k < j → τ.2.1 31 k = nI (jt k) ∧ τ.2.1 32 k = nI (jd k)
def AX (q : Ab) (σ : St) : Prop := XT (q.1 0) (q.2.2.2 0) (q.2.2.1 0) (q.2.2.1 1) σ ∧ XD (q.1 1) (q.1 2) (q.2.1 0) (q.2.1 1) σ ∧ XP (q.1 3) (q.1 4) (q.2.2.2 1) σ ∧ XL (q.1 1) (q.2.1 0) (q.1 3) (q.2.1 2) (q.2.2.2 2) σ ∧ XK (q.1 3) (q.2.2.2 3) (q.2.1 5) σ ∧ XR (q.1 3) (q.2.2.1 2) (q.2.2.1 3) (q.2.2.2 4) (q.2.2.2 5) (q.2.2.2 6) σ ∧ XJ (q.1 5) (q.2.1 3) (q.2.1 4) σ
def AM (q : Ab) (τ : St) : Prop := MT (q.1 0) (q.2.2.2 0) (q.2.2.1 0) (q.2.2.1 1) τ ∧ MD (q.1 1) (q.1 2) (q.2.1 0) (q.2.1 1) τ ∧ MP (q.1 3) (q.1 4) (q.2.2.2 1) τ ∧ ML (q.1 3) (q.2.1 2) (q.2.2.2 2) τ ∧ MK (q.1 3) (q.2.2.2 3) (q.2.1 5) τ ∧ MR (q.1 3) (q.2.2.1 2) (q.2.2.2 4) (q.2.2.2 5) (q.2.2.2 6) τ ∧ MJ (q.1 5) (q.2.1 3) (q.2.1 4) τ
/-- a call: both answer r, and both hold the next state -/
def API (fx fm : St → Option (Int32 × St)) : Prop := ∀ q : Ab, OKq q → ∃ (r : Int32) (q' : Ab), OKq q' ∧ (∀ σ, AX q σ → ∃ σ', fx σ = some (r, σ') ∧ AX q' σ') ∧ ∀ τ, AM q τ → ∃ τ', fm τ = some (r, τ') ∧ AM q' τ'
