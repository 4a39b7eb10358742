/-! ===== pure: what both programs do, the reference first: letters ===== -/
theorem inB_nI {k m : Nat} (h : k < m) (hm : m < 2 ^ 31) : inB (nI k) m = true := by
  simp [inB, nI_pos (by omega : k < 2 ^ 31), nI_clamp (by omega : k < 2 ^ 31), h]
theorem gd_t {α : Type} {b : Bool} {x : Option α} (h : b = true) : gd b x = x := if_pos h
/-- 1 or 0 -/
def b2 (b : Bool) : Int32 := if b then 1 else 0
theorem b2_isB (b : Bool) : isB (b2 b) = true := by cases b <;> rfl
theorem b2_0 {b : Bool} : b2 b = 0 ↔ b = false := by cases b <;> simp [b2]
def isDg (c : Int32) : Bool := decide (48 ≤ c) && decide (c ≤ 57)
def isLt (c : Int32) : Bool := (decide (97 ≤ c) && decide (c ≤ 122)) || (decide (65 ≤ c) && decide (c ≤ 90))
def isPl (c : Int32) : Bool := isDg c || isLt c || decide (c = 95) || decide (c = 46) || decide (c = 36)
theorem M_isDigit_eq (c : Int32) : M_isDigit c = some (b2 (isDg c)) := by
  unfold M_isDigit M_isDigit_16 M_isDigit_17 isDg
  by_cases h1 : c < 48
  · have : ¬ 48 ≤ c := by rw [Int32.le_iff_toInt_le]; rw [Int32.lt_iff_toInt_lt] at h1; omega
    simp [h1, this, gd, isB, b2]
  · have h1' : 48 ≤ c := Int32.not_lt.mp h1
    by_cases h2 : (57 : Int32) < c
    · have : ¬ c ≤ 57 := Int32.not_le.mpr h2
      simp [h1, h2, this, gd, isB, b2]
    · have : c ≤ 57 := Int32.not_lt.mp h2
      simp [h1, h1', h2, this, gd, isB, b2]
theorem M_isLetter_eq (c : Int32) : M_isLetter c = some (b2 (isLt c)) := by
  unfold M_isLetter M_isLetter_12 M_isLetter_24 M_isLetter_28 M_isLetter_29 isLt
  by_cases h1 : c < 97 <;> by_cases h2 : c ≤ 122 <;> by_cases h3 : c < 65 <;> by_cases h4 : (90 : Int32) < c <;>
    simp [h1, h2, h3, h4, gd, isB, b2, Int32.not_lt.mp, Int32.not_le.mpr]
theorem M_isPlain_eq (c : Int32) : M_isPlain c = some (b2 (isPl c)) := by
  unfold M_isPlain M_isPlain_32 M_isPlain_37
  rw [M_isDigit_eq, M_isLetter_eq]
  simp only [cr, Option.bind_some, b2_0]
  unfold isPl
  cases isDg c <;> cases isLt c <;> by_cases h1 : c = 95 <;> by_cases h2 : c = 46 <;> by_cases h3 : c = 36 <;> simp [h1, h2, h3, gd, isB, b2]
/-- the text w of n letters; past its end stands a line's end -/
def ch (w : Nat → Int32) (n p : Nat) : Int32 := if p < n then w p else 10
/-- the reference holds this text -/
def TX (σ : MS) (w : Nat → Int32) (n : Nat) : Prop := (σ.1 2 = nI n) ∧ (∀ k, k < n → σ.2 1 k = w k) ∧ (n ≤ 4096)
theorem TX.size {σ : MS} {w : Nat → Int32} {n : Nat} (h : TX σ w n) : σ.1 2 = nI n := h.1
theorem TX.text {σ : MS} {w : Nat → Int32} {n : Nat} (h : TX σ w n) : ∀ k, k < n → σ.2 1 k = w k := h.2.1
theorem TX.small {σ : MS} {w : Nat → Int32} {n : Nat} (h : TX σ w n) : n ≤ 4096 := h.2.2
theorem M_charAt_eq {σ : MS} {w : Nat → Int32} {n p : Nat} (T : TX σ w n) (hp : p < 2 ^ 31) : M_charAt (nI p) σ = some (ch w n p) := by
  unfold M_charAt M_charAt_19 ch
  have hn := T.small
  rw [T.size]
  by_cases h : p < n
  · rw [if_neg (by rw [nI_leI (by omega) hp]; omega), if_pos h, gd_t (inB_nI (by omega) (by omega)), nI_clamp hp, T.text p h]
  · rw [if_pos (by rw [nI_leI (by omega) hp]; omega), if_neg h]
theorem ch_end {w : Nat → Int32} {n p : Nat} (h : n ≤ p) : ch w n p = 10 := if_neg (by omega)
/-- where letters of a name end -/
def pend (w : Nat → Int32) (n : Nat) (p : Nat) : Nat := if h : p < n ∧ isPl (w p) = true then pend w n (p + 1) else p
termination_by n - p
theorem pend_ge (w : Nat → Int32) (n : Nat) (p : Nat) : p ≤ pend w n p := by
  induction h : n - p generalizing p with
  | zero => unfold pend; split <;> omega
  | succ k ih =>
    unfold pend
    split
    · have := ih (p + 1) (by omega); omega
    · omega
theorem pend_le (w : Nat → Int32) (n : Nat) (p : Nat) (hp : p ≤ n) : pend w n p ≤ n := by
  induction h : n - p generalizing p with
  | zero => unfold pend; split <;> omega
  | succ k ih =>
    unfold pend
    split
    · exact ih (p + 1) (by omega) (by omega)
    · omega
theorem M_plain_2_eq {σ : MS} {w : Nat → Int32} {n : Nat} (T : TX σ w n) (N : Nat) : ∀ (k p : Nat), p < 2 ^ 30 → n - p < k → M_plain_2 N k (nI p) σ = some (nI (pend w n p)) := by
  intro k
  induction k with
  | zero => intro p hp h; omega
  | succ k ih =>
    intro p hp h
    rw [M_plain_2]
    show cr (M_charAt (nI p) σ) _ = _
    rw [M_charAt_eq T (by omega)]
    simp only [cr, Option.bind_some, M_isPlain_eq, b2_0]
    rw [pend]
    by_cases hb : p < n
    · have hc : ch w n p = w p := if_pos hb
      rw [hc]
      by_cases hi : isPl (w p) = true
      · simp only [hi, hb, and_self, dite_true, Bool.true_eq_false, if_false]
        rw [nI_1]
        have := T.small
        exact ih (p + 1) (by omega) (by omega)
      · simp [hi]
    · rw [ch_end (by omega)]
      simp [hb, show isPl 10 = false from rfl]
theorem M_plain_eq {σ : MS} {w : Nat → Int32} {n : Nat} (T : TX σ w n) {N p : Nat} (hp : p < 2 ^ 30) (hN : n < N) : M_plain N (nI p) σ = some (nI (pend w n p)) := by
  unfold M_plain
  exact M_plain_2_eq T N N p hp (by omega)

theorem TX.sFk {σ : MS} {w : Nat → Int32} {n : Nat} (T : TX σ w n) (j : Nat) (v : Int32) (h : j ≠ 2) : TX (sF σ j v) w n :=
  ⟨by simp [sF, upd, Ne.symm h, T.size], T.text, T.small⟩
theorem sF_same (σ : MS) (j : Nat) (a b : Int32) : sF (sF σ j a) j b = sF σ j b := by
  unfold sF
  congr 1
  funext k
  by_cases h : k = j <;> simp [upd, h]
theorem sF_at (σ : MS) (j : Nat) (a : Int32) : (sF σ j a).1 j = a := if_pos rfl
theorem sF_ne (σ : MS) {j k : Nat} (a : Int32) (h : k ≠ j) : (sF σ j a).1 k = σ.1 k := if_neg h
theorem sF_2 (σ : MS) (j : Nat) (a : Int32) : (sF σ j a).2 = σ.2 := rfl
/-- what stands between two quotes at p, and where it ends -/
def shownS (w : Nat → Int32) (n p : Nat) (q : Int32) : Int32 × Nat :=
  let c := ch w n p
  if c = 10 then (-1, p + 1) else if c = q then (-1, p + 1) else if c = 92 then
    (let e := ch w n (p + 1)
     (if e = 110 then 10 else if e = 116 then 9 else if e = 48 then 0 else if e = 92 then e else if e = 39 then e else if e = 34 then e else -1, p + 2))
  else (c, p + 1)
theorem M_shown_eq {σ : MS} {w : Nat → Int32} {n p : Nat} {q : Int32} (T : TX σ w n) (hp : p < 2 ^ 30) : M_shown (nI p) q σ = some ((shownS w n p q).1, sF σ 12 (nI (shownS w n p q).2)) := by
  unfold M_shown M_shown_24 M_shown_106 M_shown_112 shownS
  rw [M_charAt_eq T (by omega)]
  simp only [cr, Option.bind_some, bnd, nI_1]
  by_cases h1 : ch w n p = 10
  · simp [h1]
  · by_cases h2 : ch w n p = q
    · simp [h1, h2]
    · by_cases h3 : ch w n p = 92
      · rw [if_neg h1, if_neg h2, if_pos h3, M_charAt_eq (T.sFk 12 _ (by decide)) (by omega)]
        simp only [Option.bind_some, h1, h2, h3, if_false, if_true, sF_same, show nI p + 2 = nI (p + 2) from nI_add p 2]
        have h1' := h1; have h2' := h2
        rw [h3] at h1' h2'
        rw [if_neg h1', if_neg h2']
        generalize ch w n (p + 1) = c1
        repeat' split
        all_goals first | rfl | (exfalso; simp_all; done)
      · simp [h1, h2, h3]
theorem shownS_le (w : Nat → Int32) (n p : Nat) (q : Int32) : p < (shownS w n p q).2 ∧ (shownS w n p q).2 ≤ p + 2 := by
  unfold shownS
  simp only
  split
  · constructor <;> simp
  · split
    · constructor <;> simp
    · split <;> constructor <;> simp
/-! numerals -/
def worthS (c : Int32) : Nat := if isDg c then (c - 48).toNatClampNeg else if 97 ≤ c ∧ c ≤ 102 then (c - 97 + 10).toNatClampNeg else if 65 ≤ c ∧ c ≤ 70 then (c - 65 + 10).toNatClampNeg else 99
theorem i_sub {c : Int32} {a b : Nat} (ha : nI a ≤ c) (hb : c ≤ nI b) (hb2 : b < 2 ^ 31) (hab : a ≤ b) : ∃ k, a ≤ k ∧ k ≤ b ∧ c = nI k := by
  have h1 : (a : Int) ≤ c.toInt := by rw [Int32.le_iff_toInt_le, nI_toInt (by omega)] at ha; exact ha
  have h2 : c.toInt ≤ (b : Int) := by rw [Int32.le_iff_toInt_le, nI_toInt (by omega)] at hb; exact hb
  refine ⟨c.toInt.toNat, by omega, by omega, Int32.toInt_inj.mp ?_⟩
  rw [nI_toInt (by omega)]
  omega
theorem M_worth_eq (c : Int32) : M_worth c = some (nI (worthS c)) ∧ worthS c ≤ 99 := by
  unfold M_worth M_worth_36 M_worth_58 M_worth_60 worthS
  rw [M_isDigit_eq]
  simp only [cr, Option.bind_some, b2_0]
  by_cases hd : isDg c = true
  · have hd' := hd
    simp only [isDg, Bool.and_eq_true, decide_eq_true_eq] at hd'
    obtain ⟨k, h1, h2, rfl⟩ := i_sub (a := 48) (b := 57) hd'.1 hd'.2 (by decide) (by decide)
    simp only [hd, Bool.true_eq_false, if_false, if_true]
    rw [show (48 : Int32) = nI 48 from rfl, pk_sub h1, nI_clamp (by omega)]
    exact ⟨rfl, by omega⟩
  · simp only [hd, if_true, if_false]
    simp only [Bool.not_eq_true] at hd
    by_cases h1 : 97 ≤ c ∧ c ≤ 102
    · rw [if_pos h1]
      obtain ⟨k, q1, q2, rfl⟩ := i_sub (a := 97) (b := 102) h1.1 h1.2 (by decide) (by decide)
      rw [if_neg (Int32.not_lt.mpr h1.1), if_neg (Int32.not_lt.mpr h1.2)]
      rw [show (97 : Int32) = nI 97 from rfl, pk_sub q1, show (10 : Int32) = nI 10 from rfl, nI_add, nI_clamp (by omega)]
      simp only [hd, Bool.false_eq_true, if_false, if_true]
      exact ⟨trivial, by omega⟩
    · rw [if_neg h1]
      have e : (if c < 97 then (if c < 65 then some (99 : Int32) else if 70 < c then some 99 else some (c - 65 + 10)) else if 102 < c then (if c < 65 then some 99 else if 70 < c then some 99 else some (c - 65 + 10)) else some (c - 97 + 10)) = (if c < 65 then some (99 : Int32) else if 70 < c then some 99 else some (c - 65 + 10)) := by
        by_cases a1 : c < 97
        · rw [if_pos a1]
        · rw [if_neg a1]
          by_cases a2 : 102 < c
          · rw [if_pos a2]
          · exact absurd ⟨Int32.not_lt.mp a1, Int32.not_lt.mp a2⟩ h1
      simp only [hd, Bool.false_eq_true, if_false, if_true]
      rw [e]
      by_cases h2 : 65 ≤ c ∧ c ≤ 70
      · rw [if_pos h2]
        obtain ⟨k, q1, q2, rfl⟩ := i_sub (a := 65) (b := 70) h2.1 h2.2 (by decide) (by decide)
        rw [if_neg (Int32.not_lt.mpr h2.1), if_neg (Int32.not_lt.mpr h2.2)]
        rw [show (65 : Int32) = nI 65 from rfl, pk_sub q1, show (10 : Int32) = nI 10 from rfl, nI_add, nI_clamp (by omega)]
        exact ⟨rfl, by omega⟩
      · rw [if_neg h2]
        refine ⟨?_, by omega⟩
        by_cases a1 : c < 65
        · rw [if_pos a1]; rfl
        · rw [if_neg a1]
          by_cases a2 : 70 < c
          · rw [if_pos a2]; rfl
          · exact absurd ⟨Int32.not_lt.mp a1, Int32.not_lt.mp a2⟩ h2
/-- the number that k letters from p on make, behind a; none: a letter that the base hasn't, or too large -/
def numS (w : Nat → Int32) (base : Nat) : Nat → Nat → Nat → Option Nat
  | 0, _, a => some a
  | k + 1, p, a => if worthS (w p) < base then (if a * base + worthS (w p) < 2 ^ 32 then numS w base k (p + 1) (a * base + worthS (w p)) else none) else none
def numO : Option Nat → Int64
  | some v => lN v
  | none => -1
theorem M_numeral_17_bad (N : Nat) (σ : MS) (k : Nat) (x2 x3 x6 : Int32) : M_numeral_17 N (k + 1) x2 x3 (-1) x6 σ = some (-1) := by
  rw [M_numeral_17]
  show (if x2 ≤ x6 then _ else _) = _
  unfold M_numeral_90
  split
  · rfl
  · rw [if_pos (by decide)]
theorem M_numeral_17_eq {σ : MS} {w : Nat → Int32} {n : Nat} (T : TX σ w n) (N : Nat) {base q : Nat} (hb : base ≤ 16) (hq : q ≤ n) : ∀ (k p a : Nat), p ≤ q → a < 2 ^ 32 → q - p + 1 < k → M_numeral_17 N k (nI q) (nI base) (lN a) (nI p) σ = some (numO (numS w base (q - p) p a)) := by
  have hn := T.small
  intro k
  induction k with
  | zero => intro p a hp ha h; omega
  | succ k ih =>
    intro p a hp ha h
    rw [M_numeral_17]
    show (if nI q ≤ nI p then _ else _) = _
    unfold M_numeral_90
    by_cases hpq : p = q
    · subst hpq
      rw [if_pos (by rw [nI_leI (by omega) (by omega)]; omega), Nat.sub_self]
      rfl
    · rw [if_neg (by rw [nI_leI (by omega) (by omega)]; omega), if_neg (by rw [lg_cmp_lt, show (0 : Int64) = lN 0 from rfl, pk_lLT (by omega) (by omega)]; omega), gd_t (inB_nI (by omega) (by omega)), nI_clamp (by omega), T.text p (by omega), (M_worth_eq (w p)).1]
      have hw := (M_worth_eq (w p)).2
      simp only [cr, Option.bind_some]
      obtain ⟨j, hj⟩ : ∃ j, q - p = j + 1 := ⟨q - p - 1, by omega⟩
      obtain ⟨k', rfl⟩ : ∃ k', k = k' + 1 := ⟨k - 1, by omega⟩
      rw [hj, numS]
      unfold M_numeral_63 M_numeral_82
      by_cases hd : worthS (w p) < base
      · rw [if_neg (by rw [nI_leI (by omega) (by omega)]; omega), if_pos hd, nI_l (by omega), nI_l (by omega), lN_mul, lN_add, nI_1]
        have hm : a * base ≤ 2 ^ 32 * 16 := Nat.mul_le_mul (by omega) hb
        by_cases hv : a * base + worthS (w p) < 2 ^ 32
        · rw [if_pos (by rw [lg_cmp_le, show (4294967295 : Int64) = lN 4294967295 from rfl, pk_lLE (by omega) (by omega)]; omega), if_pos hv, ih (p + 1) _ (by omega) hv (by omega), show q - (p + 1) = j by omega]
        · rw [if_neg (by rw [lg_cmp_le, show (4294967295 : Int64) = lN 4294967295 from rfl, pk_lLE (by omega) (by omega)]; omega), if_neg hv, M_numeral_17_bad]
          rfl
      · rw [if_pos (by rw [nI_leI (by omega) (by omega)]; omega), if_neg hd, if_pos (by decide), M_numeral_17_bad]
        rfl
def numeralS (w : Nat → Int32) (p q base : Nat) : Option Nat := if p < q then numS w base (q - p) p 0 else none
theorem M_numeral_eq {σ : MS} {w : Nat → Int32} {n : Nat} (T : TX σ w n) {N : Nat} {base p q : Nat} (hb : base ≤ 16) (hq : q ≤ n) (hp : p ≤ n + 2) (hN : n + 2 < N) : M_numeral N (nI p) (nI q) (nI base) σ = some (numO (numeralS w p q base)) := by
  have hn := T.small
  unfold M_numeral M_numeral_12 numeralS
  by_cases h : p < q
  · rw [if_neg (by rw [nI_leI (by omega) (by omega)]; omega), if_pos h, show (0 : Int64) = lN 0 from rfl]
    exact M_numeral_17_eq T N hb hq N p 0 (by omega) (by omega) (by omega)
  · rw [if_pos (by rw [nI_leI (by omega) (by omega)]; omega), if_neg h]
    obtain ⟨N', rfl⟩ : ∃ N', N = N' + 1 := ⟨N - 1, by omega⟩
    exact M_numeral_17_bad _ σ N' _ _ _
/-! one token -/
/-- the scanner's five numbers -/
def sc (σ : MS) (a t f o v : Int32) : MS := (fun j => if j = 9 then a else if j = 10 then t else if j = 11 then f else if j = 12 then o else if j = 13 then v else σ.1 j, σ.2)
theorem sc_ext {σ τ : MS} {a t f o v : Int32} (h9 : τ.1 9 = a) (h10 : τ.1 10 = t) (h11 : τ.1 11 = f) (h12 : τ.1 12 = o) (h13 : τ.1 13 = v) (hj : ∀ j, j ≠ 9 → j ≠ 10 → j ≠ 11 → j ≠ 12 → j ≠ 13 → τ.1 j = σ.1 j) (h2 : τ.2 = σ.2) : τ = sc σ a t f o v := by
  refine Prod.ext (funext fun j => ?_) h2
  unfold sc
  by_cases a9 : j = 9
  · subst a9; simpa using h9
  · by_cases a10 : j = 10
    · subst a10; simpa using h10
    · by_cases a11 : j = 11
      · subst a11; simpa using h11
      · by_cases a12 : j = 12
        · subst a12; simpa using h12
        · by_cases a13 : j = 13
          · subst a13; simpa using h13
          · simp only [a9, a10, a11, a12, a13, if_false]; exact hj j a9 a10 a11 a12 a13
theorem TX.sc {σ : MS} {w : Nat → Int32} {n : Nat} (T : TX σ w n) (a t f o v : Int32) : TX (sc σ a t f o v) w n := ⟨T.size, T.text, T.small⟩
theorem sc_sc (σ : MS) (a t f o v a' t' f' o' v' : Int32) : sc (sc σ a t f o v) a' t' f' o' v' = sc σ a' t' f' o' v' := by
  refine sc_ext rfl rfl rfl rfl rfl (fun j h1 h2 h3 h4 h5 => ?_) rfl
  simp [sc, h1, h2, h3, h4, h5]
theorem sc_9 (σ : MS) (a t f o v : Int32) : (sc σ a t f o v).1 9 = a := rfl
theorem sc_10 (σ : MS) (a t f o v : Int32) : (sc σ a t f o v).1 10 = t := rfl
theorem sc_11 (σ : MS) (a t f o v : Int32) : (sc σ a t f o v).1 11 = f := rfl
theorem sc_12 (σ : MS) (a t f o v : Int32) : (sc σ a t f o v).1 12 = o := rfl
theorem sc_13 (σ : MS) (a t f o v : Int32) : (sc σ a t f o v).1 13 = v := rfl
theorem sc_s9 (σ : MS) (a t f o v x : Int32) : sF (sc σ a t f o v) 9 x = sc σ x t f o v := sc_ext rfl rfl rfl rfl rfl (fun j h1 h2 h3 h4 h5 => by simp [sF, upd, sc, h1, h2, h3, h4, h5]) rfl
theorem sc_s10 (σ : MS) (a t f o v x : Int32) : sF (sc σ a t f o v) 10 x = sc σ a x f o v := sc_ext rfl rfl rfl rfl rfl (fun j h1 h2 h3 h4 h5 => by simp [sF, upd, sc, h1, h2, h3, h4, h5]) rfl
theorem sc_s11 (σ : MS) (a t f o v x : Int32) : sF (sc σ a t f o v) 11 x = sc σ a t x o v := sc_ext rfl rfl rfl rfl rfl (fun j h1 h2 h3 h4 h5 => by simp [sF, upd, sc, h1, h2, h3, h4, h5]) rfl
theorem sc_s12 (σ : MS) (a t f o v x : Int32) : sF (sc σ a t f o v) 12 x = sc σ a t f x v := sc_ext rfl rfl rfl rfl rfl (fun j h1 h2 h3 h4 h5 => by simp [sF, upd, sc, h1, h2, h3, h4, h5]) rfl
theorem sc_s13 (σ : MS) (a t f o v x : Int32) : sF (sc σ a t f o v) 13 x = sc σ a t f o x := sc_ext rfl rfl rfl rfl rfl (fun j h1 h2 h3 h4 h5 => by simp [sF, upd, sc, h1, h2, h3, h4, h5]) rfl
theorem sc_self (σ : MS) : σ = sc σ (σ.1 9) (σ.1 10) (σ.1 11) (σ.1 12) (σ.1 13) := sc_ext rfl rfl rfl rfl rfl (fun j _ _ _ _ _ => rfl) rfl
theorem M_bad_eq (σ : MS) (a t f o v : Int32) : M_bad (sc σ a t f o v) = some (0, sc σ a 5 f f v) := by
  unfold M_bad
  simp only [bnd, sc_s10, sc_11, sc_s12]
/-- a token: its kind, where it ends, its number (none: the number stays) -/
abbrev Tk : Type := (Int32) × (Nat) × (Option Int32)
abbrev Tk.k (T : Tk) : Int32 := T.1
abbrev Tk.to (T : Tk) : Nat := T.2.1
abbrev Tk.v (T : Tk) : Option Int32 := T.2.2
def bad (q : Nat) (v : Option Int32) : Tk := ⟨5, q, v⟩
def digE (q e : Nat) : Option Nat → Tk
  | some v => ⟨2, e, some (lN v).toInt32⟩
  | none => bad q (some (-1))
def digTk (w : Nat → Int32) (q e : Nat) : Tk :=
  let s := if q + 1 < e then w (q + 1) else 0
  if e = q + 2 ∧ (s = 102 ∨ s = 98) then ⟨3, e, some (w q - 48)⟩ else
    digE q e (if w q = 48 ∧ s = 120 then numeralS w (q + 2) e 16 else if w q = 48 ∧ s = 98 then numeralS w (q + 2) e 2 else numeralS w q e 10)
def digR (σ : MS) (a f o : Int32) : Option Nat → MS
  | some x => sc σ a 2 f o (lN x).toInt32
  | none => sc σ a 5 f f (-1)
theorem digits_end {σ : MS} {N : Nat} {a t f o v : Int32} (r : Option Nat) (hr : ∀ x, r = some x → x < 2 ^ 32) : M_digits_177 N (numO r) (sc σ a t f o v) = some (0, digR σ a f o r) := by
  unfold M_digits_177 M_digits_202
  simp only [bnd, sc_s10, sc_s13]
  cases r with
  | some x =>
    have := hr x rfl
    rw [show numO (some x) = lN x from rfl, if_pos (by rw [lg_cmp_ge, show (0 : Int64) = lN 0 from rfl, pk_lLE (by omega) (by omega)]; omega)]
    rfl
  | none =>
    rw [show numO none = -1 from rfl, if_neg (by decide), M_bad_eq]
    rfl
theorem digR_E (σ : MS) (a v : Int32) (q e : Nat) (r : Option Nat) : digR σ a (nI q) (nI e) r = sc σ a (digE q e r).k (nI q) (nI (digE q e r).to) ((digE q e r).v.getD v) := by
  cases r <;> rfl
theorem numS_lt {w : Nat → Int32} {base : Nat} : ∀ (k p a x : Nat), a < 2 ^ 32 → numS w base k p a = some x → x < 2 ^ 32 := by
  intro k
  induction k with
  | zero => intro p a x ha h; cases h; exact ha
  | succ k ih =>
    intro p a x ha h
    rw [numS] at h
    split at h
    · split at h
      · rename_i h2; exact ih _ _ x h2 h
      · cases h
    · cases h
theorem numeralS_lt {w : Nat → Int32} {p q base x : Nat} (h : numeralS w p q base = some x) : x < 2 ^ 32 := by
  unfold numeralS at h
  split at h
  · exact numS_lt _ _ _ _ (by omega) h
  · cases h
def tkS (σ : MS) (q : Nat) (T : Tk) : MS := sc σ (nI T.to) T.k (nI q) (nI T.to) (T.v.getD (σ.1 13))
theorem M_digits_eq {σ : MS} {w : Nat → Int32} {n : Nat} {N q e : Nat} {a t v : Int32} (T : TX σ w n) (hN : n + 2 < N) (hq : q < e) (he : e ≤ n) : M_digits N (sc σ a t (nI q) (nI e) v) = some (0, sc σ a (digTk w q e).k (nI q) (nI (digTk w q e).to) ((digTk w q e).v.getD v)) := by
  have hn := T.small
  have T' := T.sc a t (nI q) (nI e) v
  have hd : nI e - nI q = nI (e - q) := pk_sub (by omega)
  have key : ∀ s : Int32, M_digits_58 N s (sc σ a t (nI q) (nI e) v) = some (0, digR σ a (nI q) (nI e) (if w q = 48 ∧ s = 120 then numeralS w (q + 2) e 16 else if w q = 48 ∧ s = 98 then numeralS w (q + 2) e 2 else numeralS w q e 10)) := by
    intro s
    unfold M_digits_58 M_digits_59 M_digits_105 M_digits_135 M_digits_163
    simp only [if_true, sc_11, sc_12]
    rw [gd_t (inB_nI (by omega) (by omega)), nI_clamp (by omega)]
    rw [show (sc σ a t (nI q) (nI e) v).2 1 q = w q from T.text q (by omega)]
    rw [show nI q + 2 = nI (q + 2) from nI_add q 2]
    have c10 : M_numeral N (nI q) (nI e) 10 (sc σ a t (nI q) (nI e) v) = some (numO (numeralS w q e 10)) := M_numeral_eq (base := 10) T' (by omega) he (by omega) (by omega)
    have c16 : M_numeral N (nI (q + 2)) (nI e) 16 (sc σ a t (nI q) (nI e) v) = some (numO (numeralS w (q + 2) e 16)) := M_numeral_eq (base := 16) T' (by omega) he (by omega) (by omega)
    have c2 : M_numeral N (nI (q + 2)) (nI e) 2 (sc σ a t (nI q) (nI e) v) = some (numO (numeralS w (q + 2) e 2)) := M_numeral_eq (base := 2) T' (by omega) he (by omega) (by omega)
    rw [c10, c16, c2]
    simp only [cr, Option.bind_some]
    by_cases h1 : w q = 48
    · simp only [h1, if_true, true_and, show ((1 : Int32) = 0) = False from by decide, if_false]
      by_cases h2 : s = 120
      · simp only [h2, if_true]
        exact digits_end _ (fun x h => numeralS_lt h)
      · simp only [h2, if_false]
        by_cases h3 : s = 98
        · simp only [h3, if_true]
          exact digits_end _ (fun x h => numeralS_lt h)
        · simp only [h3, if_false]
          exact digits_end _ (fun x h => numeralS_lt h)
    · simp only [h1, if_false, if_true, false_and]
      exact digits_end _ (fun x h => numeralS_lt h)
  have near : M_digits_54 N = fun s τ => M_digits_59 N s 1 τ := rfl
  have nearE : ∀ s : Int32, M_digits_54 N s (sc σ a t (nI q) (nI e) v) = some (0, sc σ a 3 (nI q) (nI e) (w q - 48)) := by
    intro s
    rw [near]
    unfold M_digits_59
    simp only [show ((1 : Int32) = 0) = False from by decide, if_false, bnd, sc_s10, sc_11, sc_s13]
    rw [gd_t (inB_nI (by omega) (by omega)), nI_clamp (by omega)]
    rw [show (sc σ a 3 (nI q) (nI e) v).2 1 q = w q from T.text q (by omega)]
  unfold M_digits M_digits_28
  simp only [sc_11, sc_12, hd, nI_1]
  unfold digTk
  by_cases h1 : q + 1 < e
  · rw [if_neg (by rw [show (1 : Int32) = nI 1 from rfl, nI_leI (by omega) (by omega)]; omega), gd_t (inB_nI (by omega) (by omega)), nI_clamp (by omega), show (sc σ a t (nI q) (nI e) v).2 1 (q + 1) = w (q + 1) from T.text _ (by omega)]
    simp only [h1, if_true]
    by_cases h2 : e = q + 2
    · rw [if_pos (by rw [show (2 : Int32) = nI 2 from rfl]; congr 1; omega)]
      by_cases h3 : w (q + 1) = 102
      · simp only [h3, if_true, h2, true_and, true_or]
        subst h2
        exact nearE _
      · by_cases h4 : w (q + 1) = 98
        · simp only [h3, h4, if_true, h2, true_and, or_true, if_false]
          subst h2
          rw [if_neg (by decide)]
          exact nearE _
        · simp only [h3, h4, if_false, or_self, and_false]
          rw [key, digR_E σ a v]
          simp only [h4, and_false, if_false]
    · rw [if_neg (by rw [show (2 : Int32) = nI 2 from rfl, nI_eq (by omega) (by omega)]; omega)]
      simp only [h2, false_and, if_false]
      rw [key, digR_E σ a v]
  · rw [if_pos (by rw [show (1 : Int32) = nI 1 from rfl, nI_leI (by omega) (by omega)]; omega)]
    have h2 : ¬ e = q + 2 := by omega
    rw [if_neg (by rw [show (2 : Int32) = nI 2 from rfl, nI_eq (by omega) (by omega)]; omega)]
    simp only [h1, h2, false_and, if_false]
    rw [key, digR_E σ a v]
/-- a letter between quotes: where it stands ends, or a bad one -/
def chrTk (w : Nat → Int32) (n q : Nat) : Tk :=
  let r := shownS w n (q + 1) 39
  if ¬ r.1 < 0 ∧ ch w n r.2 = 39 ∧ isPl (ch w n (r.2 + 1)) = false then ⟨2, r.2 + 1, some r.1⟩ else bad q (some r.1)
theorem M_character_eq {σ : MS} {w : Nat → Int32} {n q : Nat} {t o v : Int32} (T : TX σ w n) (hq : q < 2 ^ 29) : M_character (sc σ (nI q) t (nI q) o v) = some (0, sc σ (nI q) (chrTk w n q).k (nI q) (nI (chrTk w n q).to) ((chrTk w n q).v.getD v)) := by
  have hl := shownS_le w n (q + 1) 39
  unfold M_character M_character_46 M_character_45 M_character_75 M_character_79 M_character_46 chrTk
  simp only [sc_9, nI_1]
  rw [M_shown_eq (T.sc _ _ _ _ _) (by omega)]
  generalize hr : shownS w n (q + 1) 39 = r at hl ⊢
  simp only [cl, cr, Option.bind_some, bnd, sc_s12, sc_s13, sc_s10, sc_13, sc_12]
  by_cases h1 : r.1 < 0
  · simp only [h1, if_true, not_true, false_and, if_false]
    unfold M_character_75 M_character_79
    simp only [nI_1, sc_s12, M_bad_eq, cl, Option.bind_some]
    rfl
  · simp only [h1, if_false, not_false_eq_true, true_and]
    rw [M_charAt_eq (T.sc _ _ _ _ _) (by omega)]
    simp only [Option.bind_some]
    by_cases h2 : ch w n r.2 = 39
    · simp only [h2, if_true, true_and, show ((1 : Int32) = 0) = False from by decide, if_false, nI_1, sc_s12, sc_12]
      rw [M_charAt_eq (T.sc _ _ _ _ _) (by omega)]
      simp only [Option.bind_some, M_isPlain_eq, b2_0]
      by_cases h3 : isPl (ch w n (r.2 + 1)) = false
      · simp only [h3, if_true]
        rfl
      · simp only [h3, if_false, M_bad_eq, cl, Option.bind_some]
        rfl
    · simp only [h2, if_false, false_and, if_true]
      unfold M_character_75 M_character_79
      simp only [nI_1, sc_s12, M_bad_eq, cl, Option.bind_some]
      rfl
/-- the end of a string that began before k: where its closing quote stands, or none -/
def quoS (w : Nat → Int32) (n : Nat) (k : Nat) : Option Nat :=
  if ch w n k = 34 then some k else
    if (shownS w n k 34).1 < 0 then none else if h : k < n then quoS w n (shownS w n k 34).2 else none
termination_by n - k
decreasing_by have := shownS_le w n k 34; omega
theorem quoS_end {w : Nat → Int32} {n k : Nat} (h : n ≤ k) : quoS w n k = none := by
  unfold quoS
  rw [ch_end h]
  simp [show ¬ k < n by omega]
def quoR (σ : MS) (a f v : Int32) : Option Nat → MS
  | some k => sc σ a 4 f (nI (k + 1)) v
  | none => sc σ a 5 f f v
theorem M_quote_14_eq {σ : MS} {w : Nat → Int32} {n : Nat} {a f v : Int32} (T : TX σ w n) (N : Nat) : ∀ (m k : Nat) (o x2 : Int32), k < 2 ^ 29 → n - k + 1 < m → ¬ x2 < 0 → M_quote_14 N m (nI k) x2 (sc σ a 4 f o v) = some (0, quoR σ a f v (quoS w n k)) := by
  have hn := T.small
  intro m
  induction m with
  | zero => intro k o x2 hk h; omega
  | succ m ih =>
    intro k o x2 hk h hx
    rw [M_quote_14]
    show (if x2 < 0 then _ else _) = _
    rw [if_neg hx, M_charAt_eq (T.sc _ _ _ _ _) (by omega)]
    simp only [cr, Option.bind_some]
    rw [quoS]
    by_cases h1 : ch w n k = 34
    · rw [if_pos h1, if_pos h1]
      unfold M_quote_44 M_quote_59
      simp only [bnd, nI_1, sc_s12]
      rw [if_pos (Int32.not_lt.mp hx)]
      rfl
    · rw [if_neg h1, if_neg h1, M_shown_eq (T.sc _ _ _ _ _) (by omega)]
      have hl := shownS_le w n k 34
      simp only [cl, Option.bind_some, sc_s12, sc_12]
      by_cases h2 : (shownS w n k 34).1 < 0
      · rw [if_pos h2]
        obtain ⟨m', rfl⟩ : ∃ m', m = m' + 1 := ⟨m - 1, by omega⟩
        rw [M_quote_14]
        show (if _ < 0 then _ else _) = _
        rw [if_pos h2]
        unfold M_quote_44 M_quote_59
        simp only [bnd, nI_1, sc_s12, M_bad_eq, cl, Option.bind_some]
        rw [if_neg (Int32.not_le.mpr h2)]
        rfl
      · rw [if_neg h2]
        by_cases hkn : k < n
        · rw [dif_pos hkn]
          exact ih _ _ _ (by omega) (by omega) h2
        · have e : ch w n k = 10 := ch_end (by omega)
          have : (shownS w n k 34).1 = -1 := by unfold shownS; rw [e]; rfl
          rw [this] at h2
          exact absurd (by decide) h2
def strTk (w : Nat → Int32) (n q : Nat) : Tk := match quoS w n (q + 1) with
  | some k => ⟨4, k + 1, none⟩
  | none => bad q none
theorem M_quote_eq {σ : MS} {w : Nat → Int32} {n q N : Nat} {t o v : Int32} (T : TX σ w n) (hq : q < 2 ^ 28) (hN : n + 2 < N) : M_quote N (sc σ (nI q) t (nI q) o v) = some (0, sc σ (nI q) (strTk w n q).k (nI q) (nI (strTk w n q).to) ((strTk w n q).v.getD v)) := by
  unfold M_quote
  simp only [bnd, sc_s10, sc_9, nI_1]
  rw [M_quote_14_eq T N N (q + 1) o 0 (by omega) (by omega) (by decide)]
  unfold strTk
  cases quoS w n (q + 1) <;> rfl
/-- the token that begins at q, where no blank stands -/
def tokAt (w : Nat → Int32) (n q : Nat) : Tk :=
  let c := ch w n q
  if c = 10 ∨ c = 35 then ⟨0, q, none⟩
  else if isDg c = true then digTk w q (pend w n q)
  else if isPl c = true then (if q + 31 < pend w n q then bad q none else ⟨1, pend w n q, none⟩)
  else if c = 39 then chrTk w n q
  else if c = 34 then strTk w n q
  else if c = 60 ∨ c = 62 then (if ch w n (q + 1) = c then ⟨if c = 60 then 6 else 7, q + 2, none⟩ else bad q none)
  else if c = 58 ∨ c = 44 ∨ c = 40 ∨ c = 41 ∨ c = 43 ∨ c = 45 ∨ c = 42 ∨ c = 47 ∨ c = 37 ∨ c = 38 ∨ c = 124 ∨ c = 94 ∨ c = 126 then ⟨c, q + 1, none⟩
  else bad q none
/-- where blanks end -/
def skipB (w : Nat → Int32) (n q : Nat) : Nat := if h : q < n ∧ (w q = 9 ∨ w q = 32) then skipB w n (q + 1) else q
termination_by n - q
theorem M_scan_348_eq (N : Nat) (σ : MS) (a t f o v : Int32) : M_scan_348 N (sc σ a t f o v) = some (0, sc σ o t f o v) := by
  unfold M_scan_348
  simp only [bnd, sc_12, sc_s9]

theorem pend_pl {w : Nat → Int32} {n q : Nat} (h : isPl (ch w n q) = true) : q < pend w n q ∧ pend w n q ≤ n := by
  by_cases hq : q < n
  · refine ⟨?_, pend_le w n q (by omega)⟩
    have e : ch w n q = w q := if_pos hq
    rw [e] at h
    rw [pend, dif_pos ⟨hq, h⟩]
    have := pend_ge w n (q + 1)
    omega
  · rw [ch_end (by omega)] at h
    exact absurd h (by decide)
theorem isDg_pl {c : Int32} (h : isDg c = true) : isPl c = true := by simp [isPl, h]
theorem M_scan_tok {σ : MS} {w : Nat → Int32} {n q N k : Nat} (T : TX σ w n) (hq : q < 2 ^ 28) (hN : n + 2 < N) (hat : σ.1 9 = nI q) (h9 : ¬ ch w n q = 9) (h32 : ¬ ch w n q = 32) : M_scan_0 N (k + 1) σ = some (0, tkS σ q (tokAt w n q)) := by
  have hn := T.small
  rw [M_scan_0]
  show cr (M_charAt (σ.1 9) σ) _ = _
  rw [hat, M_charAt_eq T (by omega)]
  simp only [cr, Option.bind_some, h9, h32, if_false]
  rw [show sF σ 11 (nI q) = sc σ (nI q) (σ.1 10) (nI q) (σ.1 12) (σ.1 13) from sc_ext (by rw [sF_ne _ _ (by decide), hat]) rfl rfl rfl rfl (fun j _ _ h _ _ => sF_ne _ _ h) rfl]
  simp only [bnd, sc_9, nI_1, sc_s12]
  rw [M_charAt_eq (T.sc _ _ _ _ _) (by omega)]
  simp only [Option.bind_some]
  unfold tokAt tkS
  by_cases a1 : ch w n q = 10 ∨ ch w n q = 35
  · have : (if ch w n q = 10 then M_scan_78 N (sc σ (nI q) (σ.1 10) (nI q) (nI (q + 1)) (σ.1 13)) else if ch w n q = 35 then M_scan_78 N (sc σ (nI q) (σ.1 10) (nI q) (nI (q + 1)) (σ.1 13)) else none) = M_scan_78 N (sc σ (nI q) (σ.1 10) (nI q) (nI (q + 1)) (σ.1 13)) := by
      rcases a1 with h | h
      · rw [if_pos h]
      · rw [if_pos h]; split <;> rfl
    have e : M_scan_78 N (sc σ (nI q) (σ.1 10) (nI q) (nI (q + 1)) (σ.1 13)) = some (0, sc σ (nI q) 0 (nI q) (nI q) (σ.1 13)) := by
      unfold M_scan_78
      simp only [bnd, sc_s10, sc_9, sc_s12, M_scan_348_eq]
    rcases a1 with h | h
    · rw [if_pos h, e]; simp [h] <;> rfl
    · rw [if_neg (by rw [h]; decide), if_pos h, e]; simp [h] <;> rfl
  · have a10 : ¬ ch w n q = 10 := fun h => a1 (Or.inl h)
    have a35 : ¬ ch w n q = 35 := fun h => a1 (Or.inr h)
    simp only [a10, a35, if_false, or_self, M_isDigit_eq, M_isPlain_eq, Option.bind_some, b2_0]
    by_cases a2 : isDg (ch w n q) = true
    · have hp := pend_pl (isDg_pl a2)
      simp only [a2, Bool.true_eq_false, if_false, if_true]
      rw [M_plain_eq (T.sc _ _ _ _ _) (by omega) (by omega)]
      simp only [Option.bind_some, sc_s12]
      rw [M_digits_eq T (by omega) hp.1 hp.2]
      simp only [cl, Option.bind_some, M_scan_348_eq]
    · simp only [Bool.not_eq_true] at a2
      simp only [a2, if_true, Bool.false_eq_true, if_false]
      by_cases a3 : isPl (ch w n q) = true
      · have hp := pend_pl a3
        simp only [a3, Bool.true_eq_false, if_false, if_true]
        rw [M_plain_eq (T.sc _ _ _ _ _) (by omega) (by omega)]
        simp only [Option.bind_some, sc_s12, sc_s10, sc_12, sc_11, pk_sub (show q ≤ pend w n q by omega)]
        by_cases a4 : q + 31 < pend w n q
        · rw [if_neg (by rw [show (31 : Int32) = nI 31 from rfl, nI_leI (by omega) (by omega)]; omega)]
          simp only [M_bad_eq, cl, Option.bind_some, M_scan_348_eq, a4, if_true]
          rfl
        · rw [if_pos (by rw [show (31 : Int32) = nI 31 from rfl, nI_leI (by omega) (by omega)]; omega)]
          simp only [M_scan_348_eq, a4, if_false]
          rfl
      · simp only [Bool.not_eq_true] at a3
        simp only [a3, if_true, Bool.false_eq_true, if_false]
        by_cases a5 : ch w n q = 39
        · simp only [a5, if_true]
          rw [M_character_eq T (by omega)]
          simp only [cl, Option.bind_some, M_scan_348_eq]
        · simp only [a5, if_false]
          by_cases a6 : ch w n q = 34
          · simp only [a6, if_true]
            rw [M_quote_eq T (by omega) (by omega)]
            simp only [cl, Option.bind_some, M_scan_348_eq]
          · simp only [a6, if_false]
            have shf : ∀ (c t : Int32), M_scan_217 N c t (sc σ (nI q) (σ.1 10) (nI q) (nI (q + 1)) (σ.1 13)) = some (0, if ch w n (q + 1) = c then sc σ (nI (q + 2)) t (nI q) (nI (q + 2)) (σ.1 13) else sc σ (nI q) 5 (nI q) (nI q) (σ.1 13)) := by
              intro c t
              unfold M_scan_217
              simp only [bnd, sc_s10, sc_9, nI_1, sc_s12, show nI q + 2 = nI (q + 2) from nI_add q 2]
              rw [M_charAt_eq (T.sc _ _ _ _ _) (by omega)]
              simp only [cr, Option.bind_some, M_bad_eq, cl, M_scan_348_eq]
              split <;> rfl
            by_cases a7 : ch w n q = 60
            · rw [if_pos a7]
              unfold M_scan_203
              rw [if_pos a7, shf]
              simp only [a7, true_or, if_true]
              congr 2
              split <;> simp_all [bad] <;> rfl
            · rw [if_neg a7]
              by_cases a8 : ch w n q = 62
              · rw [if_pos a8]
                unfold M_scan_203
                rw [if_neg a7, shf]
                simp only [a8, or_true, if_true]
                congr 2
                split <;> simp_all [bad] <;> rfl
              · rw [if_neg a8]
                simp only [a7, a8, or_self, if_false]
                have good : M_scan_329 N (ch w n q) (sc σ (nI q) (σ.1 10) (nI q) (nI (q + 1)) (σ.1 13)) = some (0, sc σ (nI (q + 1)) (ch w n q) (nI q) (nI (q + 1)) (σ.1 13)) := by
                  unfold M_scan_329 M_scan_334
                  simp only [bnd, sc_s10, M_scan_348_eq]
                  rfl
                have notgood : M_scan_334 N (ch w n q) 0 (sc σ (nI q) (σ.1 10) (nI q) (nI (q + 1)) (σ.1 13)) = some (0, sc σ (nI q) 5 (nI q) (nI q) (σ.1 13)) := by
                  unfold M_scan_334
                  simp only [bnd, sc_s10, if_true, M_bad_eq, cl, Option.bind_some, M_scan_348_eq]
                rw [good, notgood]
                generalize ch w n q = c
                by_cases a9 : c = 58 ∨ c = 44 ∨ c = 40 ∨ c = 41 ∨ c = 43 ∨ c = 45 ∨ c = 42 ∨ c = 47 ∨ c = 37 ∨ c = 38 ∨ c = 124 ∨ c = 94 ∨ c = 126
                · rw [if_pos a9]
                  rcases a9 with h | h | h | h | h | h | h | h | h | h | h | h | h <;> subst h <;> rfl
                · rw [if_neg a9]
                  simp only [not_or] at a9
                  obtain ⟨b1, b2, b3, b4, b5, b6, b7, b8, b9, b10, b11, b12, b13⟩ := a9
                  simp only [b1, b2, b3, b4, b5, b6, b7, b8, b9, b10, b11, b12, b13, if_false]
                  rfl

theorem M_scan_0_eq {σ : MS} {w : Nat → Int32} {n N : Nat} (T : TX σ w n) (hN : n + 2 < N) : ∀ (k q : Nat) (τ : MS), q < 2 ^ 27 → n - q < k → (∃ a : Int32, τ = sF σ 9 a) → τ.1 9 = nI q → M_scan_0 N k τ = some (0, tkS σ (skipB w n q) (tokAt w n (skipB w n q))) := by
  have hn := T.small
  intro k
  induction k with
  | zero => intro q τ hq h; omega
  | succ k ih =>
    intro q τ hq h hτ hat
    obtain ⟨a, rfl⟩ := hτ
    have T' := T.sFk 9 a (by decide)
    rw [skipB]
    by_cases hb : q < n ∧ (w q = 9 ∨ w q = 32)
    · rw [dif_pos hb, M_scan_0]
      show cr (M_charAt ((sF σ 9 a).1 9) (sF σ 9 a)) _ = _
      have e : ch w n q = w q := if_pos hb.1
      rw [hat, M_charAt_eq T' (by omega), e]
      simp only [cr, Option.bind_some]
      have key : M_scan_26 N (M_scan_0 N k) (sF σ 9 a) = some (0, tkS σ (skipB w n (q + 1)) (tokAt w n (skipB w n (q + 1)))) := by
        unfold M_scan_26
        simp only [bnd, hat, nI_1, sF_same]
        exact ih (q + 1) _ (by omega) (by omega) ⟨_, rfl⟩ (sF_at _ _ _)
      rcases hb.2 with h2 | h2
      · rw [if_pos h2, key]
      · rw [if_pos h2, key]
        split <;> rfl
    · rw [dif_neg hb]
      have hne : ¬ ch w n q = 9 ∧ ¬ ch w n q = 32 := by
        by_cases hqn : q < n
        · have e : ch w n q = w q := if_pos hqn
          rw [e]
          exact ⟨fun z => hb ⟨hqn, Or.inl z⟩, fun z => hb ⟨hqn, Or.inr z⟩⟩
        · rw [ch_end (by omega)]
          decide
      rw [M_scan_tok T' (by omega) hN hat hne.1 hne.2]
      congr 2
      refine sc_ext rfl rfl rfl rfl ?_ (fun j h1 h2 h3 h4 h5 => ?_) rfl
      · simp [tkS, sc, sF, upd]
      · simp [tkS, sc, sF, upd, h1, h2, h3, h4, h5]
/-- scan(): the token behind the blanks -/
theorem M_scan_eq {σ : MS} {w : Nat → Int32} {n N q : Nat} (T : TX σ w n) (hN : n + 2 < N) (hq : q < 2 ^ 27) (hat : σ.1 9 = nI q) : M_scan N σ = some (0, tkS σ (skipB w n q) (tokAt w n (skipB w n q))) := by
  unfold M_scan
  refine M_scan_0_eq T hN N q σ hq (by omega) ⟨σ.1 9, ?_⟩ hat
  refine Prod.ext (funext fun j => ?_) rfl
  by_cases h : j = 9 <;> simp [sF, upd, h]
