/-! ===== the class's lexer ===== -/
def okT (c : Int32) : Prop := c = 9 ∨ c = 10 ∨ (32 ≤ c ∧ c ≤ 126)
/-- the text as both see it -/
abbrev tw (X : List Int32) : Nat → Int32 := fun k => X.getD k 0
theorem C_Lex_isDigit_eq (c : Int32) : C_Lex_isDigit c = some (b2 (isDg c)) := M_isDigit_eq c
theorem C_Lex_isOfName_eq (c : Int32) : C_Lex_isOfName c = some (b2 (isPl c)) := by
  unfold C_Lex_isOfName C_Lex_isOfName_19 C_Lex_isOfName_31 C_Lex_isOfName_49 C_Lex_isOfName_54 isPl isLt
  rw [C_Lex_isDigit_eq]
  simp only [cr, Option.bind_some, b2_0]
  have n1 : ∀ a b : Int32, (a ≤ b) = ¬ (b < a) := fun a b => by rw [Int32.not_lt]
  cases isDg c <;> simp only [n1] <;> by_cases h1 : c < 97 <;> by_cases h2 : (122 : Int32) < c <;> by_cases h3 : c < 65 <;> by_cases h4 : (90 : Int32) < c <;> by_cases h5 : c = 95 <;> by_cases h6 : c = 46 <;> by_cases h7 : c = 36 <;> simp [h1, h2, h3, h4, h5, h6, h7, gd, isB, b2]
theorem C_Lex_digit_eq (c : Int32) : C_Lex_digit c = some (nI (worthS c)) := (M_worth_eq c).1
theorem ch_in {w : Nat → Int32} {n p : Nat} (h : p < n) : ch w n p = w p := if_pos h
theorem tw_out {X : List Int32} {p : Nat} (h : X.length ≤ p) : X.getD p 0 = 0 := by simp [List.getD_eq_getElem?_getD, List.getElem?_eq_none h]
theorem isPl_ch (X : List Int32) (p : Nat) : isPl (X.getD p 0) = isPl (ch (tw X) X.length p) := by
  by_cases h : p < X.length
  · rw [ch_in h]
  · rw [ch_end (by omega), tw_out (by omega)]; rfl
theorem eq_ch (X : List Int32) (p : Nat) {c : Int32} (h0 : c ≠ 0) (h10 : c ≠ 10) : X.getD p 0 = c ↔ ch (tw X) X.length p = c := by
  by_cases h : p < X.length
  · rw [ch_in h]
  · rw [ch_end (by omega), tw_out (by omega)]
    exact ⟨fun q => absurd q.symm h0, fun q => absurd q.symm h10⟩
/-- the lexer's five states at place p of the text X -/
def LxL (sL sX sY sN sT : CS) (X Y : List Int32) (p : Nat) (ns : List (List Int32)) (pn so va op re od : List Int32) (L : List (Int32 × Int32 × Int32)) (c : Nat) : Prop := (sL.1 0 = nI p) ∧ (RowL sX X) ∧ (RowL sY Y) ∧ (NamL sN ns pn so va op re od) ∧ (TokL sT L c)
theorem LxL.at_ {sL sX sY sN sT : CS} {X Y : List Int32} {p : Nat} {ns : List (List Int32)} {pn so va op re od : List Int32} {L : List (Int32 × Int32 × Int32)} {c : Nat} (h : LxL sL sX sY sN sT X Y p ns pn so va op re od L c) : sL.1 0 = nI p := h.1
theorem LxL.x {sL sX sY sN sT : CS} {X Y : List Int32} {p : Nat} {ns : List (List Int32)} {pn so va op re od : List Int32} {L : List (Int32 × Int32 × Int32)} {c : Nat} (h : LxL sL sX sY sN sT X Y p ns pn so va op re od L c) : RowL sX X := h.2.1
theorem LxL.y {sL sX sY sN sT : CS} {X Y : List Int32} {p : Nat} {ns : List (List Int32)} {pn so va op re od : List Int32} {L : List (Int32 × Int32 × Int32)} {c : Nat} (h : LxL sL sX sY sN sT X Y p ns pn so va op re od L c) : RowL sY Y := h.2.2.1
theorem LxL.nm {sL sX sY sN sT : CS} {X Y : List Int32} {p : Nat} {ns : List (List Int32)} {pn so va op re od : List Int32} {L : List (Int32 × Int32 × Int32)} {c : Nat} (h : LxL sL sX sY sN sT X Y p ns pn so va op re od L c) : NamL sN ns pn so va op re od := h.2.2.2.1
theorem LxL.tk {sL sX sY sN sT : CS} {X Y : List Int32} {p : Nat} {ns : List (List Int32)} {pn so va op re od : List Int32} {L : List (Int32 × Int32 × Int32)} {c : Nat} (h : LxL sL sX sY sN sT X Y p ns pn so va op re od L c) : TokL sT L c := h.2.2.2.2
theorem C_get {sX : CS} {X : List Int32} (h : RowL sX X) {p : Nat} (hp : p < 2 ^ 31) : C_Row_get (nI p) sX = some (X.getD p 0) := by rw [C_Row_get_eq h, getR_nI _ hp]
/-- digits from p on: where they end, and what they come to, no more than 2 ^ 32 -/
def dl (w : Nat → Int32) (n base : Nat) (p a : Nat) : Nat × Nat := if h : p < n ∧ worthS (w p) < base then dl w n base (p + 1) (min (a * base + worthS (w p)) (2 ^ 32)) else (p, a)
termination_by n - p
theorem worth_pl {c : Int32} (h : isPl c = false) : worthS c = 99 := by
  unfold isPl isLt at h
  simp only [Bool.or_eq_false_iff, Bool.and_eq_false_iff, decide_eq_false_iff_not] at h
  obtain ⟨⟨⟨⟨hd, h1, h2⟩, -⟩, -⟩, -⟩ := h
  unfold worthS
  rw [hd]
  have a1 : ¬ (97 ≤ c ∧ c ≤ 102) := by
    rintro ⟨x, y⟩
    rcases h1 with h1 | h1
    · exact h1 x
    · exact h1 (Int32.le_trans y (by decide))
  have a2 : ¬ (65 ≤ c ∧ c ≤ 70) := by
    rintro ⟨x, y⟩
    rcases h2 with h2 | h2
    · exact h2 x
    · exact h2 (Int32.le_trans y (by decide))
  simp [a1, a2]
theorem dl_big (w : Nat → Int32) (n : Nat) {base : Nat} (hb : 1 ≤ base) (p : Nat) : (dl w n base p (2 ^ 32)).2 = 2 ^ 32 := by
  induction h : n - p generalizing p with
  | zero => rw [dl, dif_neg (by omega)]
  | succ k ih =>
    rw [dl]
    split
    · have : min (2 ^ 32 * base + worthS (w p)) (2 ^ 32) = 2 ^ 32 := Nat.min_eq_right (by
        have : 2 ^ 32 * 1 ≤ 2 ^ 32 * base := Nat.mul_le_mul_left _ hb
        omega)
      rw [this]
      exact ih (p + 1) (by omega)
    · rfl
/-- how a class's number and the reference's go together: E is the end of the letters -/
theorem dl_num (w : Nat → Int32) (n : Nat) {base E : Nat} (hb : 1 ≤ base) (hb2 : base ≤ 99) (hE : E ≤ n) (hstop : E < n → isPl (w E) = false) : ∀ (k p a : Nat), E = p + k → a < 2 ^ 32 →
    match numS w base k p a with
    | some v => dl w n base p a = (E, v)
    | none => (dl w n base p a).1 < E ∨ 2 ^ 32 ≤ (dl w n base p a).2 := by
  intro k
  induction k with
  | zero =>
    intro p a hp ha
    simp only [numS]
    have : E = p := by omega
    subst this
    rw [dl, dif_neg]
    rintro ⟨h1, h2⟩
    rw [worth_pl (hstop h1)] at h2
    omega
  | succ k ih =>
    intro p a hp ha
    rw [numS, dl]
    by_cases hd : worthS (w p) < base
    · rw [if_pos hd, dif_pos ⟨by omega, hd⟩]
      by_cases hv : a * base + worthS (w p) < 2 ^ 32
      · rw [if_pos hv, Nat.min_eq_left (by omega)]
        exact ih (p + 1) _ (by omega) hv
      · rw [if_neg hv, Nat.min_eq_right (by omega)]
        simp only
        right
        rw [dl_big w n hb]
        exact Nat.le_refl _
    · rw [if_neg hd, dif_neg (fun q => hd q.2)]
      simp only
      left
      omega
theorem pend_stop (w : Nat → Int32) (n p : Nat) : pend w n p < n → isPl (w (pend w n p)) = false := by
  induction h : n - p generalizing p with
  | zero =>
    intro h1
    have := pend_ge w n p
    omega
  | succ k ih =>
    rw [pend]
    split
    · exact ih (p + 1) (by omega)
    · rename_i q
      intro h1
      cases hc : isPl (w p) with
      | false => rfl
      | true => exact absurd ⟨h1, hc⟩ q
theorem pend_all (w : Nat → Int32) (n p : Nat) : ∀ k, p ≤ k → k < pend w n p → isPl (w k) = true := by
  induction h : n - p generalizing p with
  | zero =>
    intro k h1 h2
    rw [pend, dif_neg (by omega)] at h2
    omega
  | succ m ih =>
    intro k h1 h2
    rw [pend] at h2
    split at h2
    · rename_i q
      by_cases e : k = p
      · subst e; exact q.2
      · exact ih (p + 1) (by omega) k (by omega) h2
    · omega
theorem jminl_nI {a b : Nat} (ha : a < 2 ^ 63) (hb : b < 2 ^ 63) : jminl (lN a) (lN b) = lN (min a b) := by
  unfold jminl
  by_cases h : b < a
  · rw [if_pos ((pk_lLT hb ha).mpr h), Nat.min_eq_right (by omega)]
  · rw [if_neg (fun z => h ((pk_lLT hb ha).mp z)), Nat.min_eq_left (by omega)]
theorem dl_ge (w : Nat → Int32) (n base p a : Nat) : p ≤ (dl w n base p a).1 := by
  induction h : n - p generalizing p a with
  | zero => rw [dl, dif_neg (by omega)]; exact Nat.le_refl _
  | succ k ih =>
    rw [dl]
    split
    · have := ih (p + 1) (min (a * base + worthS (w p)) (2 ^ 32)) (by omega); omega
    · simp
theorem dl_le (w : Nat → Int32) (n base p a : Nat) (hp : p ≤ n) : (dl w n base p a).1 ≤ n := by
  induction h : n - p generalizing p a with
  | zero => rw [dl, dif_neg (by omega)]; exact hp
  | succ k ih =>
    rw [dl]
    split
    · exact ih (p + 1) _ (by omega) (by omega)
    · exact hp
theorem dl_32 (w : Nat → Int32) (n base p a : Nat) (ha : a ≤ 2 ^ 32) : (dl w n base p a).2 ≤ 2 ^ 32 := by
  induction h : n - p generalizing p a with
  | zero => rw [dl, dif_neg (by omega)]; exact ha
  | succ k ih =>
    rw [dl]
    split
    · exact ih (p + 1) _ (by omega) (by omega)
    · exact ha
theorem cF_same (σ : CS) (j : Nat) (a b : Int32) : cF (cF σ j a) j b = cF σ j b := by
  unfold cF
  congr 1
  funext k
  by_cases h : k = j <;> simp [upd, h]
theorem C_Lex_readDigits_20_eq {sX sY sN sT sL : CS} {X : List Int32} (hX : RowL sX X) (N : Nat) {base b : Nat} (hb : base ≤ 99) : ∀ (m p a c : Nat), p ≤ X.length → a ≤ 2 ^ 32 → X.length - p < m → X.length - p ≤ c → c < 2 ^ 30 → C_Lex_readDigits_20 N m (nI base) (nI b) (lN a) (nI X.length) (nI c) (cF sL 0 (nI p)) sX sY sN sT = C_Lex_readDigits_95 N (nI base) (nI b) (lN (dl (tw X) X.length base p a).2) (cF sL 0 (nI (dl (tw X) X.length base p a).1)) sX sY sN sT := by
  have hx1 := hX.cap; have hx2 := hX.big
  intro m
  induction m with
  | zero => intro p a c _ _ h; omega
  | succ m ih =>
    intro p a c hp ha hm hc hc2
    rw [C_Lex_readDigits_20]
    show (if nI c ≤ 0 then _ else _) = _
    have e0 : (cF sL 0 (nI p)).1 0 = nI p := by simp [cF, upd]
    rw [dl]
    by_cases hpn : p < X.length
    · rw [if_neg (by rw [show (0 : Int32) = nI 0 from rfl, nI_leI (by omega) (by omega)]; omega), e0, if_neg (by rw [nI_leI (by omega) (by omega)]; omega), C_get hX (by omega)]
      simp only [cr, Option.bind_some, C_Lex_digit_eq]
      have hw := (M_worth_eq (X.getD p 0)).2
      by_cases hd : worthS (X.getD p 0) < base
      · rw [if_neg (by rw [nI_leI (by omega) (by omega)]; omega), dif_pos ⟨hpn, hd⟩, nI_l (by omega), nI_l (by omega), lN_mul, lN_add]
        have hmul : a * base ≤ 2 ^ 32 * 99 := Nat.mul_le_mul ha hb
        simp only [bnd]
        rw [show (4294967296 : Int64) = lN (2 ^ 32) from rfl, jminl_nI (by omega) (by omega), nI_1, cF_same]
        have ec : nI c + -1 = nI (c - 1) := by
          obtain ⟨c', rfl⟩ : ∃ c', c = c' + 1 := ⟨c - 1, by omega⟩
          exact pk_m1 c'
        rw [ec]
        exact ih (p + 1) _ (c - 1) (by omega) (by omega) (by omega) (by omega) (by omega)
      · rw [if_pos (by rw [nI_leI (by omega) (by omega)]; omega), dif_neg (fun q => hd q.2)]
    · rw [dif_neg (fun q => hpn q.1)]
      have : p = X.length := by omega
      subst this
      split
      · rfl
      · rw [e0, if_pos (by rw [nI_leI (by omega) (by omega)]; omega)]

/-- what readDigits, readNear .. answer: a token more and the place behind it, or nothing -/
def NumPost (sL sT : CS) (L : List (Int32 × Int32 × Int32)) (c : Nat) (tok : Option ((Int32 × Int32 × Int32) × Nat)) (r : Option ((Int32 × (CS × CS)) × (Nat × Nat))) : Prop :=
  match tok with
  | some (t, e) => ∃ sT' c' dc ds, r = some ((1, (cF sL 0 (nI e), sT')), (dc, ds)) ∧ TokL sT' (L ++ [t]) c' ∧ sT'.1 2 = sT.1 2 ∧ ds + 6 * c ≤ 6 * c' ∧ 64 * dc + 3 * c ≤ 3 * c'
  | none => ∃ sL', r = some ((0, (sL', sT)), (0, 0))
theorem ct0 {α σ β : Type} {o : Option ((α × σ) × (Nat × Nat))} {a : α} {u : σ} {d e : Nat} {k : α → σ → Option (β × (Nat × Nat))} {b : β} (h : o = some ((a, u), (d, e))) (hk : k a u = some (b, (0, 0))) : ct o k = some (b, (d, e)) := by
  rw [h]
  simp [ct, hk]
def digTok (w : Nat → Int32) (n base b p0 : Nat) : Option ((Int32 × Int32 × Int32) × Nat) :=
  let r := dl w n base b 0
  if r.1 = b ∨ 2 ^ 32 ≤ r.2 ∨ isPl (ch w n r.1) = true then none else some ((if base = 10 ∧ r.1 = b + 1 then 4 else 3, (lN r.2).toInt32, 0), r.1)
theorem C_Lex_readDigits_eq {sX sY sN sT sL : CS} {X : List Int32} (hX : RowL sX X) {L : List (Int32 × Int32 × Int32)} {c : Nat} (hT : TokL sT L c) (hl : 2 * L.length + 64 ≤ 140000) {N base b : Nat} (hb : base ≤ 99) (hN : X.length < N) (hbl : b ≤ X.length + 2) : NumPost sL sT L c (digTok (tw X) X.length base b 0) (C_Lex_readDigits N (nI base) (nI b) sL sX sY sN sT) := by
  have hx1 := hX.cap; have hx2 := hX.big
  unfold C_Lex_readDigits
  simp only [bnd]
  rw [hX.cnt]
  have step : C_Lex_readDigits_20 N N (nI base) (nI b) (0 : Int64) (nI X.length) (nI X.length) (cF sL 0 (nI b)) sX sY sN sT = C_Lex_readDigits_95 N (nI base) (nI b) (lN (dl (tw X) X.length base b 0).2) (cF sL 0 (nI (dl (tw X) X.length base b 0).1)) sX sY sN sT := by
    by_cases h : b ≤ X.length
    · rw [show (0 : Int64) = lN 0 from rfl]
      exact C_Lex_readDigits_20_eq hX N hb N b 0 X.length h (by omega) (by omega) (by omega) (by omega)
    · rw [dl, dif_neg (fun q => h (by omega))]
      obtain ⟨N', rfl⟩ : ∃ N', N = N' + 1 := ⟨N - 1, by omega⟩
      rw [C_Lex_readDigits_20]
      show (if nI X.length ≤ 0 then _ else _) = _
      have e0 : (cF sL 0 (nI b)).1 0 = nI b := by simp [cF, upd]
      split
      · rfl
      · rw [e0, if_pos (by rw [nI_leI (by omega) (by omega)]; omega)]
        rfl
  rw [step]
  have hge := dl_ge (tw X) X.length base b 0
  have h32 := dl_32 (tw X) X.length base b 0 (by omega)
  have hend : (dl (tw X) X.length base b 0).1 ≤ X.length + 2 := by
    by_cases h : b ≤ X.length
    · have := dl_le (tw X) X.length base b 0 h; omega
    · rw [dl, dif_neg (fun q => h (by omega))]; exact hbl
  unfold digTok
  generalize hr : dl (tw X) X.length base b 0 = r at *
  unfold C_Lex_readDigits_95 C_Lex_readDigits_128 C_Lex_readDigits_154 C_Lex_readDigits_155
  have e0 : (cF sL 0 (nI r.1)).1 0 = nI r.1 := by simp [cF, upd]
  simp only [e0]
  by_cases hno : r.1 = b ∨ 2 ^ 32 ≤ r.2 ∨ isPl (ch (tw X) X.length r.1) = true
  · rw [if_pos hno]
    simp only [NumPost]
    by_cases h1 : r.1 = b
    · rw [if_pos (by rw [h1])]
      exact ⟨_, rfl⟩
    · rw [if_neg (by rw [nI_eq (by omega) (by omega)]; exact h1)]
      by_cases h2 : 2 ^ 32 ≤ r.2
      · rw [if_pos (by rw [lg_cmp_ge, show (4294967296 : Int64) = lN (2 ^ 32) from rfl, pk_lLE (by omega) (by omega)]; exact h2)]
        exact ⟨_, rfl⟩
      · rw [if_neg (by rw [lg_cmp_ge, show (4294967296 : Int64) = lN (2 ^ 32) from rfl, pk_lLE (by omega) (by omega)]; exact h2), C_get hX (by omega)]
        simp only [cr, Option.bind_some, C_Lex_isOfName_eq, b2_0, isPl_ch]
        have h3 : isPl (ch (tw X) X.length r.1) = true := by
          rcases hno with h | h | h
          · exact absurd h h1
          · exact absurd h h2
          · exact h
        simp only [h3, Bool.true_eq_false, if_false]
        exact ⟨_, rfl⟩
  · rw [if_neg hno]
    simp only [not_or, Bool.not_eq_true] at hno
    obtain ⟨h1, h2, h3⟩ := hno
    have key : ∀ t : Int32, NumPost sL sT L c (some ((t, (lN r.2).toInt32, 0), r.1)) (ct (C_Tok_add t (lN r.2).toInt32 0 sT) (fun r1 u2 => some (((1 : Int32), (cF sL 0 (nI r.1), u2)), (0, 0)))) := by
      intro t
      obtain ⟨sT', c', dc, ds, e, h4, h5, h6, h7, -⟩ := C_Tok_add_eq hT hl t (lN r.2).toInt32 0
      exact ⟨sT', c', dc, ds, ct0 e rfl, h4, h5, h6, h7⟩
    have cls : (if nI r.1 = nI b then some (((0 : Int32), (cF sL 0 (nI r.1), sT)), ((0 : Nat), (0 : Nat))) else if 0 ≤ lg_cmp (lN r.2) 4294967296 then some ((0, (cF sL 0 (nI r.1), sT)), (0, 0)) else cr (C_Row_get (nI r.1) sX) (fun r1 => cr (C_Lex_isOfName r1) (fun r2 => if r2 = 0 then (if nI base = 10 then (if nI r.1 - nI b = 1 then ct (C_Tok_add 4 (lN r.2).toInt32 0 sT) (fun r1 u2 => some (((1 : Int32), (cF sL 0 (nI r.1), u2)), (0, 0))) else ct (C_Tok_add 3 (lN r.2).toInt32 0 sT) (fun r1 u2 => some (((1 : Int32), (cF sL 0 (nI r.1), u2)), (0, 0)))) else ct (C_Tok_add 3 (lN r.2).toInt32 0 sT) (fun r1 u2 => some (((1 : Int32), (cF sL 0 (nI r.1), u2)), (0, 0)))) else some ((0, (cF sL 0 (nI r.1), sT)), (0, 0))))) = ct (C_Tok_add (if base = 10 ∧ r.1 = b + 1 then 4 else 3) (lN r.2).toInt32 0 sT) (fun r1 u2 => some (((1 : Int32), (cF sL 0 (nI r.1), u2)), (0, 0))) := by
      rw [if_neg (by rw [nI_eq (by omega) (by omega)]; exact h1), if_neg (by rw [lg_cmp_ge, show (4294967296 : Int64) = lN (2 ^ 32) from rfl, pk_lLE (by omega) (by omega)]; exact h2), C_get hX (by omega)]
      simp only [cr, Option.bind_some, C_Lex_isOfName_eq, b2_0, isPl_ch, h3, if_true]
      rw [pk_sub hge]
      by_cases h4 : nI base = 10
      · have hb10 : base = 10 := (nI_eq (by omega) (by omega)).mp h4
        rw [if_pos h4]
        by_cases h5 : r.1 = b + 1
        · rw [if_pos (by rw [show (1 : Int32) = nI 1 from rfl]; congr 1; omega), if_pos ⟨hb10, h5⟩]
        · rw [if_neg (by rw [show (1 : Int32) = nI 1 from rfl, nI_eq (by omega) (by omega)]; omega), if_neg (fun q => h5 q.2)]
      · have hb10 : ¬ base = 10 := fun q => h4 (by rw [q]; rfl)
        rw [if_neg h4, if_neg (fun q => hb10 q.1)]
    rw [cls]
    exact key _
def numTok (E base b : Nat) : Option Nat → Option ((Int32 × Int32 × Int32) × Nat)
  | some v => some ((if base = 10 ∧ E = b + 1 then 4 else 3, (lN v).toInt32, 0), E)
  | none => none
theorem digTok_num (X : List Int32) {base b q : Nat} (hb : 1 ≤ base) (hb2 : base ≤ 99) (hq : q ≤ b) (hbE : b ≤ pend (tw X) X.length q) (hqn : q ≤ X.length) : digTok (tw X) X.length base b 0 = numTok (pend (tw X) X.length q) base b (numeralS (tw X) b (pend (tw X) X.length q) base) := by
  have hle := pend_le (tw X) X.length q hqn
  have hst := pend_stop (tw X) X.length q
  have hall := pend_all (tw X) X.length q
  generalize pend (tw X) X.length q = E at *
  unfold digTok numeralS
  by_cases h : b < E
  · rw [if_pos h]
    have hd := dl_num (tw X) X.length hb hb2 hle hst (E - b) b 0 (by omega) (by omega)
    have hlt : ∀ v, numS (tw X) base (E - b) b 0 = some v → v < 2 ^ 32 := fun v hv => numS_lt _ _ _ _ (by omega) hv
    have hge := dl_ge (tw X) X.length base b 0
    cases hn : numS (tw X) base (E - b) b 0 with
    | some v =>
      rw [hn] at hd
      simp only at hd
      have hv := hlt v hn
      simp only [hd]
      have hpl : isPl (ch (tw X) X.length E) = false := by
        by_cases hEn : E < X.length
        · rw [ch_in hEn]; exact hst hEn
        · rw [ch_end (by omega)]; rfl
      rw [if_neg (by rw [hpl]; simp; omega)]
      rfl
    | none =>
      rw [hn] at hd
      simp only at hd
      rw [if_pos]
      · rfl
      · rcases hd with hd | hd
        · right; right
          rw [ch_in (by omega)]
          exact hall _ (by omega) hd
        · right; left; exact hd
  · have : b = E := by omega
    subst this
    rw [if_neg h, dl, dif_neg]
    · simp [numTok]
    · rintro ⟨h1, h2⟩
      rw [worth_pl (hst h1)] at h2
      omega
theorem C_Lex_readNear_eq {sX sY sN sT sL : CS} {X : List Int32} (hX : RowL sX X) {L : List (Int32 × Int32 × Int32)} {c : Nat} (hT : TokL sT L c) (hl : 2 * L.length + 64 ≤ 140000) {q : Nat} (hq : q < X.length) (hat : sL.1 0 = nI q) (d : Int32) : NumPost sL sT L c (if isPl (ch (tw X) X.length (q + 2)) = true then none else some ((5, 2 * (X.getD q 0 - 48) + (if d = 102 then 1 else 0), 0), q + 2)) (C_Lex_readNear d sL sX sY sN sT) := by
  have hx1 := hX.cap; have hx2 := hX.big
  unfold C_Lex_readNear C_Lex_readNear_53
  rw [hat, show nI q + 2 = nI (q + 2) from nI_add q 2, C_get hX (by omega), C_get hX (by omega)]
  simp only [cr, Option.bind_some, C_Lex_isOfName_eq, b2_0, isPl_ch]
  by_cases h : isPl (ch (tw X) X.length (q + 2)) = true
  · rw [if_pos h]
    simp only [h, Bool.true_eq_false, if_false]
    exact ⟨_, rfl⟩
  · rw [if_neg h]
    simp only [Bool.not_eq_true] at h
    simp only [h, if_true]
    have key : ∀ v : Int32, NumPost sL sT L c (some ((5, v, 0), q + 2)) (ct (C_Tok_add 5 v 0 sT) (fun r1 u2 => some (((1 : Int32), (cF sL 0 (nI (q + 2)), u2)), (0, 0)))) := by
      intro v
      obtain ⟨sT', c', dc, ds, e, h4, h5, h6, h7, -⟩ := C_Tok_add_eq hT hl 5 v 0
      exact ⟨sT', c', dc, ds, ct0 e rfl, h4, h5, h6, h7⟩
    by_cases h2 : d = 102
    · rw [if_pos h2, if_pos h2]; exact key _
    · rw [if_neg h2, if_neg h2]; exact key _
/-- a number's token as the class keeps it, out of the reference's -/
def numC (w : Nat → Int32) (q : Nat) (T : Tk) : Option ((Int32 × Int32 × Int32) × Nat) :=
  if T.k = 3 then some ((5, 2 * (w q - 48) + (if w (q + 1) = 102 then 1 else 0), 0), T.to)
  else if T.k = 2 then some ((if T.to = q + 1 then 4 else 3, T.v.getD 0, 0), T.to) else none
theorem numPost_gd {sL sT : CS} {L : List (Int32 × Int32 × Int32)} {c : Nat} {tok : Option ((Int32 × Int32 × Int32) × Nat)} {r : Option ((Int32 × (CS × CS)) × (Nat × Nat))} (h : NumPost sL sT L c tok r) : NumPost sL sT L c tok (ct r (fun r1 u2 => gd (isB r1) (some ((r1, (u2.1, u2.2)), (0, 0))))) := by
  cases tok with
  | none =>
    obtain ⟨sL', e⟩ := h
    exact ⟨sL', ct0 e rfl⟩
  | some t =>
    obtain ⟨sT', c', dc, ds, e, h4, h5, h6, h7⟩ := h
    exact ⟨sT', c', dc, ds, ct0 e rfl, h4, h5, h6, h7⟩
theorem numC_E (w : Nat → Int32) (q E base b : Nat) (r : Option Nat) (h : (E = q + 1) ↔ (base = 10 ∧ E = b + 1)) : numC w q (digE q E r) = numTok E base b r := by
  cases r with
  | none => simp [numC, digE, bad, numTok, Tk.k]
  | some v =>
    show (if (2 : Int32) = 3 then _ else if (2 : Int32) = 2 then some ((if E = q + 1 then (4 : Int32) else 3, (lN v).toInt32, (0 : Int32)), E) else none) = some ((if base = 10 ∧ E = b + 1 then (4 : Int32) else 3, (lN v).toInt32, 0), E)
    rw [if_neg (by decide), if_pos rfl]
    by_cases e : E = q + 1
    · rw [if_pos e, if_pos (h.mp e)]
    · rw [if_neg e, if_neg (fun z => e (h.mpr z))]
theorem C_Lex_readNumber_eq {sX sY sN sT sL : CS} {X : List Int32} (hX : RowL sX X) {L : List (Int32 × Int32 × Int32)} {c : Nat} (hT : TokL sT L c) (hl : 2 * L.length + 64 ≤ 140000) {N q : Nat} (hq : q < X.length) (hat : sL.1 0 = nI q) (hN : X.length < N) (hd : isDg (X.getD q 0) = true) : NumPost sL sT L c (numC (tw X) q (digTk (tw X) q (pend (tw X) X.length q))) (C_Lex_readNumber N sL sX sY sN sT) := by
  have hx1 := hX.cap; have hx2 := hX.big
  have hpl : isPl (ch (tw X) X.length q) = true := by rw [ch_in hq]; exact isDg_pl hd
  obtain ⟨hE1, hE2⟩ := pend_pl hpl
  have hst := pend_stop (tw X) X.length q
  have hall := pend_all (tw X) X.length q
  have num := fun (base b : Nat) (h1 : 1 ≤ base) (h2 : base ≤ 99) (h3 : q ≤ b) (h4 : b ≤ pend (tw X) X.length q) => digTok_num X (base := base) (b := b) (q := q) h1 h2 h3 h4 (by omega)
  generalize pend (tw X) X.length q = E at *
  have rd := fun (base b : Nat) (h1 : base ≤ 99) (h2 : b ≤ X.length + 2) => numPost_gd (C_Lex_readDigits_eq (sY := sY) (sN := sN) (sL := sL) hX hT hl (N := N) (base := base) (b := b) h1 hN h2)
  have near := fun d => numPost_gd (C_Lex_readNear_eq (sY := sY) (sN := sN) hX hT hl hq hat d)
  -- the second letter
  have hsec : ∀ x : Int32, isPl x = true → (X.getD (q + 1) 0 = x ↔ (if q + 1 < E then tw X (q + 1) else 0) = x) := by
    intro x hx
    by_cases h : q + 1 < E
    · rw [if_pos h]
    · rw [if_neg h]
      have hE : E = q + 1 := by omega
      constructor
      · intro e
        by_cases hn : q + 1 < X.length
        · have := hst (by omega)
          rw [hE] at this
          rw [show tw X (q + 1) = x from e] at this
          rw [this] at hx
          cases hx
        · rw [tw_out (by omega)] at e
          exact e
      · intro e
        rw [← e] at hx
        exact absurd hx (by decide)
  have p2 : isPl (ch (tw X) X.length (q + 2)) = true → q + 1 < E → q + 2 < E := by
    intro h1 h2
    by_cases h : E = q + 2
    · by_cases hn : q + 2 < X.length
      · rw [ch_in hn] at h1
        have := hst (by omega)
        rw [h] at this
        rw [this] at h1
        cases h1
      · rw [ch_end (by omega)] at h1
        exact absurd h1 (by decide)
    · omega
  have p3 : q + 2 < E → isPl (ch (tw X) X.length (q + 2)) = true := fun h => by rw [ch_in (by omega)]; exact hall _ (by omega) h
  unfold C_Lex_readNumber
  rw [hat, nI_1, show nI q + 2 = nI (q + 2) from nI_add q 2, C_get hX (by omega), C_get hX (by omega)]
  simp only [cr, Option.bind_some]
  have s120 := hsec 120 (by decide)
  have s98 := hsec 98 (by decide)
  have s102 := hsec 102 (by decide)
  generalize hs : (if q + 1 < E then tw X (q + 1) else 0) = s at *
  generalize hs' : X.getD (q + 1) 0 = s' at *
  have hgt : ∀ x : Int32, s = x → isPl x = true → q + 1 < E := by
    intro x e hx
    by_cases h : q + 1 < E
    · exact h
    · rw [if_neg h] at hs
      rw [← e, ← hs] at hx
      exact absurd hx (by decide)
  -- digits to base 10
  have ten : ¬ s = 102 → ¬ s = 98 → NumPost sL sT L c (numC (tw X) q (digE q E (numeralS (tw X) q E 10))) (C_Lex_readNumber_102 N s' sL sX sY sN sT) := by
    intro h1 h2
    unfold C_Lex_readNumber_102
    rw [if_neg (fun e => h1 (s102.mp e)), if_neg (fun e => h2 (s98.mp e)), hat, numC_E (tw X) q E 10 q _ (by simp), ← num 10 q (by omega) (by omega) (by omega) (by omega)]
    exact rd 10 q (by omega) (by omega)
  have nearB : (s = 102 ∨ s = 98) → E = q + 2 → NumPost sL sT L c (numC (tw X) q ⟨3, E, some (tw X q - 48)⟩) (C_Lex_readNumber_102 N s' sL sX sY sN sT) := by
    intro h1 h2
    have hnp : ¬ isPl (ch (tw X) X.length (q + 2)) = true := fun h => by have := p2 h (by omega); omega
    unfold C_Lex_readNumber_102 C_Lex_readNumber_114
    have n1 := near s'
    rw [if_neg hnp] at n1
    have e1 : tw X (q + 1) = s' := hs'
    rw [show numC (tw X) q ⟨3, E, some (tw X q - 48)⟩ = some ((5, 2 * (X.getD q 0 - 48) + (if s' = 102 then 1 else 0), 0), q + 2) from by simp only [numC, if_true]; rw [e1, h2]]
    generalize (if s' = 102 then (1 : Int32) else 0) = vv at n1 ⊢
    rcases h1 with h1 | h1
    · rw [if_pos (s102.mpr h1)]; exact n1
    · have : ¬ s' = 102 := fun z => by rw [s98.mpr h1] at z; exact absurd z (by decide)
      rw [if_neg this, if_pos (s98.mpr h1)]; exact n1
  have nearN : (s = 102 ∨ s = 98) → ¬ E = q + 2 → NumPost sL sT L c none (C_Lex_readNumber_102 N s' sL sX sY sN sT) := by
    intro h1 h2
    have hgt2 : q + 1 < E := by
      rcases h1 with h1 | h1
      · exact hgt _ h1 (by decide)
      · exact hgt _ h1 (by decide)
    have hnp : isPl (ch (tw X) X.length (q + 2)) = true := p3 (by omega)
    unfold C_Lex_readNumber_102 C_Lex_readNumber_114
    have n1 := near s'
    rw [if_pos hnp] at n1
    rcases h1 with h1 | h1
    · rw [if_pos (s102.mpr h1)]; exact n1
    · have : ¬ s' = 102 := fun z => by rw [s98.mpr h1] at z; exact absurd z (by decide)
      rw [if_neg this, if_pos (s98.mpr h1)]; exact n1
  have tenN : (s = 102 ∨ s = 98) → numeralS (tw X) q E 10 = none := by
    intro h1
    have hgt2 : q + 1 < E := by
      rcases h1 with h1 | h1
      · exact hgt _ h1 (by decide)
      · exact hgt _ h1 (by decide)
    have e1 : tw X (q + 1) = s := by rw [if_pos hgt2] at hs; exact hs
    unfold numeralS
    rw [if_pos (by omega)]
    obtain ⟨k, hk⟩ : ∃ k, E - q = k + 2 := ⟨E - q - 2, by omega⟩
    rw [hk, numS]
    split
    · split
      · rw [numS, e1]
        rcases h1 with h1 | h1 <;> rw [h1] <;> rw [if_neg (by decide)]
      · rfl
    · rfl
  unfold digTk
  simp only [hs]
  by_cases hnear : E = q + 2 ∧ (s = 102 ∨ s = 98)
  · rw [if_pos hnear]
    have n1 := nearB hnear.2 hnear.1
    generalize numC (tw X) q ⟨3, E, some (tw X q - 48)⟩ = R at n1 ⊢
    have hnx : ¬ s' = 120 := fun z => by
      have := s120.mp z
      rcases hnear.2 with h | h <;> rw [this] at h <;> exact absurd h (by decide)
    have hnp : isPl (ch (tw X) X.length (q + 2)) = false := by
      cases h : isPl (ch (tw X) X.length (q + 2)) with
      | false => rfl
      | true => have := p2 h (by omega); omega
    by_cases h48 : X.getD q 0 = 48
    · rw [if_pos h48, if_neg hnx]
      unfold C_Lex_readNumber_49
      rw [hat, C_get hX (by omega)]
      simp only [cr, Option.bind_some, h48, if_true]
      split
      · rw [show nI q + 2 = nI (q + 2) from nI_add q 2, C_get hX (by omega)]
        simp only [Option.bind_some, C_Lex_isOfName_eq, b2_0, isPl_ch, hnp, if_true]
        exact n1
      · exact n1
    · rw [if_neg h48]
      unfold C_Lex_readNumber_49
      rw [hat, C_get hX (by omega)]
      simp only [cr, Option.bind_some, h48, if_false]
      exact n1
  · rw [if_neg hnear]
    by_cases h48 : X.getD q 0 = 48
    · rw [if_pos h48]
      have h48' : tw X q = 48 := h48
      simp only [h48', true_and]
      by_cases hx : s = 120
      · have hg := hgt 120 hx (by decide)
        rw [if_pos (s120.mpr hx), if_pos hx, numC_E (tw X) q E 16 (q + 2) _ (by constructor <;> intro z <;> omega), ← num 16 (q + 2) (by omega) (by omega) (by omega) (by omega)]
        exact rd 16 (q + 2) (by omega) (by omega)
      · rw [if_neg (fun e => hx (s120.mp e)), if_neg hx]
        unfold C_Lex_readNumber_49
        rw [hat, C_get hX (by omega)]
        simp only [cr, Option.bind_some, h48, if_true]
        by_cases hbb : s = 98
        · have hg := hgt 98 hbb (by decide)
          have hE3 : ¬ E = q + 2 := fun e => hnear ⟨e, Or.inr hbb⟩
          rw [if_pos (s98.mpr hbb), if_pos hbb, show nI q + 2 = nI (q + 2) from nI_add q 2, C_get hX (by omega)]
          simp only [Option.bind_some, C_Lex_isOfName_eq, b2_0, isPl_ch, p3 (by omega), Bool.true_eq_false, if_false]
          rw [numC_E (tw X) q E 2 (q + 2) _ (by constructor <;> intro z <;> omega), ← num 2 (q + 2) (by omega) (by omega) (by omega) (by omega)]
          exact rd 2 (q + 2) (by omega) (by omega)
        · rw [if_neg (fun e => hbb (s98.mp e)), if_neg hbb]
          by_cases hff : s = 102
          · rw [tenN (Or.inl hff)]
            exact nearN (Or.inl hff) (fun e => hnear ⟨e, Or.inl hff⟩)
          · exact ten hff hbb
    · have h48' : ¬ tw X q = 48 := h48
      rw [if_neg h48]
      simp only [h48', false_and, if_false]
      unfold C_Lex_readNumber_49
      rw [hat, C_get hX (by omega)]
      simp only [cr, Option.bind_some, h48, if_false]
      by_cases hff : s = 102
      · rw [tenN (Or.inl hff)]
        exact nearN (Or.inl hff) (fun e => hnear ⟨e, Or.inl hff⟩)
      · by_cases hbb : s = 98
        · rw [tenN (Or.inr hbb)]
          exact nearN (Or.inr hbb) (fun e => hnear ⟨e, Or.inr hbb⟩)
        · exact ten hff hbb
