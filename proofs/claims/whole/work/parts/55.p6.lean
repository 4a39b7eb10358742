/-- the letters from p to e -/
def cut (X : List Int32) (p e : Nat) : List Int32 := (X.drop p).take (e - p)
theorem cut_succ (X : List Int32) {p e : Nat} (h : p ≤ e) (he : e < X.length) : cut X p (e + 1) = cut X p e ++ [X.getD e 0] := by
  unfold cut
  rw [show e + 1 - p = (e - p) + 1 by omega, List.take_add_one, List.getElem?_drop, show p + (e - p) = e by omega, List.getD_eq_getElem?_getD, List.getElem?_eq_getElem he]
  rfl
theorem cut_self (X : List Int32) (p : Nat) : cut X p p = [] := by simp [cut]
theorem cut_len (X : List Int32) {p e : Nat} (h : e ≤ X.length) : (cut X p e).length = e - p := by simp [cut]; omega
/-- a name gets a number: the old one, or a new one -/
def Intern (ns : List (List Int32)) (so va p : List Int32) (i : Nat) (ns' : List (List Int32)) (so' va' : List Int32) : Prop :=
  (i < ns.length ∧ ns.getD i [] = p ∧ ns' = ns ∧ so' = so ∧ va' = va) ∨ (p ∉ ns ∧ i = ns.length ∧ ns' = ns ++ [p] ∧ so' = so ++ [0] ∧ va' = va ++ [0])
theorem FinPost.intern {σ : CS} {ns : List (List Int32)} {p so va op re od : List Int32} {r : Option ((Int32 × CS) × (Nat × Nat))} (h : FinPost σ ns p so va op re od r) : ∃ i ns' so' va' σ' dc ds, r = some ((nI i, σ'), (dc, ds)) ∧ Cost (capN σ) (capN σ') dc ds ∧ (∀ j, 1 ≤ j → j < 100 → σ'.1 j = σ.1 j) ∧ Intern ns so va p i ns' so' va' ∧ NamL σ' ns' [] so' va' op re od := by
  obtain ⟨i, σ', dc, ds, e, c, f, ⟨h1, h2, h3⟩ | ⟨h1, h2, h3⟩⟩ := h
  · exact ⟨i, ns, so, va, σ', dc, ds, e, c, f, Or.inl ⟨h1, h2, rfl, rfl, rfl⟩, h3⟩
  · exact ⟨i, _, _, _, σ', dc, ds, e, c, f, Or.inr ⟨h1, h2, rfl, rfl, rfl⟩, h3⟩
def NamPost (sL sN sT : CS) (X : List Int32) (ns : List (List Int32)) (so va op re od : List Int32) (L : List (Int32 × Int32 × Int32)) (c : Nat) (p : List Int32) (e : Nat) (r : Option ((Int32 × (CS × CS × CS)) × (Nat × Nat))) : Prop :=
  ∃ i ns' so' va' sN' sT' c' dc ds, r = some ((1, (cF sL 0 (nI e), sN', sT')), (dc, ds)) ∧ Intern ns so va p i ns' so' va' ∧ NamL sN' ns' [] so' va' op re od ∧ TokL sT' (L ++ [(2, nI i, 0)]) c' ∧ sT'.1 2 = sT.1 2 ∧ (∀ j, 1 ≤ j → j < 100 → sN'.1 j = sN.1 j) ∧ ds + 6 * c + 2 * capN sN ≤ 6 * c' + 2 * capN sN' ∧ 64 * dc + 3 * c + capN sN ≤ 3 * c' + capN sN'
theorem C_Lex_readName_75_eq {sX sY sT sL : CS} {X : List Int32} (hX : RowL sX X) {ns : List (List Int32)} {so va op re od : List Int32} {L : List (Int32 × Int32 × Int32)} {c : Nat} (hT : TokL sT L c) (hl : 2 * L.length + 64 ≤ 140000) {N q e : Nat} (hqe : q ≤ e) (he : e ≤ X.length) (hN : e < N) (hN2 : ns.length < N) (hf : NFits ns (cut X q e)) : ∀ (m k : Nat) (sN : CS), q ≤ k → k ≤ e → e - k < m → NamL sN ns (cut X q k) so va op re od → NamPost sL sN sT X ns so va op re od L c (cut X q e) e (C_Lex_readName_75 N m (nI k) (cF sL 0 (nI e)) sX sY sN sT) := by
  have hx1 := hX.cap; have hx2 := hX.big
  intro m
  induction m with
  | zero => intro k sN _ _ h; omega
  | succ m ih =>
    intro k sN hk1 hk2 hm hN3
    rw [C_Lex_readName_75]
    show NamPost sL sN sT X ns so va op re od L c _ e (if (cF sL 0 (nI e)).1 0 ≤ nI k then _ else _)
    rw [cF_at]
    by_cases h : k = e
    · subst h
      rw [if_pos (by rw [nI_leI (by omega) (by omega)]; omega)]
      have hlen := cut_len X (p := q) he
      obtain ⟨i, ns', so', va', σ', dc, ds, e1, ⟨c1, c2⟩, f1, i1, n1⟩ := (C_Nam_finish_eq hN3 hf (N := N) (by omega) hN2).intern
      obtain ⟨sT', c', d2, e2, a2, h4, h5, h6, h7, -⟩ := C_Tok_add_eq hT hl 2 (nI i) 0
      exact ⟨i, ns', so', va', σ', sT', c', dc + d2, ds + e2, ct1 e1 (ct0 a2 rfl), i1, n1, h4, h5, f1, by omega, by omega⟩
    · rw [if_neg (by rw [nI_leI (by omega) (by omega)]; omega), C_get hX (by omega)]
      simp only [cr, Option.bind_some]
      have hlen := cut_len X (p := q) (e := k) (by omega)
      have hlen2 := cut_len X (p := q) he
      obtain ⟨hf1, hf2⟩ := hf
      simp only [List.length_append] at hf1
      obtain ⟨σ', dc, ds, e1, n1, ⟨c1, c2⟩, f1⟩ := C_Nam_put_eq hN3 (X.getD k 0) (by simp only [List.length_append]; omega)
      rw [← cut_succ X hk1 (by omega)] at n1
      obtain ⟨i, ns', so', va', sN', sT', c', d2, e2, a2, i1, q1, q2, q3, q4, q5, q6⟩ := ih (k + 1) σ' (by omega) (by omega) (by omega) n1
      refine ⟨i, ns', so', va', sN', sT', c', dc + d2, ds + e2, ct1 e1 (by rw [nI_1]; exact a2), i1, q1, q2, q3, fun j h1 h2 => by rw [q4 j h1 h2, f1 j h1 h2], by omega, by omega⟩
theorem C_Lex_readName_15_eq {sX sY sN sT sL : CS} {X : List Int32} (hX : RowL sX X) (N : Nat) {q : Nat} : ∀ (m k x : Nat), k ≤ X.length → X.length - k < m → X.length - k ≤ x → x < 2 ^ 30 → C_Lex_readName_15 N m (nI q) (nI X.length) (nI x) (cF sL 0 (nI k)) sX sY sN sT = C_Lex_readName_60 N (nI q) (cF sL 0 (nI (pend (tw X) X.length k))) sX sY sN sT := by
  have hx1 := hX.cap; have hx2 := hX.big
  intro m
  induction m with
  | zero => intro k x _ h; omega
  | succ m ih =>
    intro k x hk hm hx hx3
    rw [C_Lex_readName_15]
    show (if nI x ≤ 0 then _ else _) = _
    rw [cF_at, pend]
    by_cases hkn : k < X.length
    · rw [if_neg (by rw [show (0 : Int32) = nI 0 from rfl, nI_leI (by omega) (by omega)]; omega), if_neg (by rw [nI_leI (by omega) (by omega)]; omega), C_get hX (by omega)]
      simp only [cr, Option.bind_some, C_Lex_isOfName_eq, b2_0]
      by_cases hp : isPl (X.getD k 0) = true
      · rw [if_neg (by rw [hp]; decide), dif_pos ⟨hkn, hp⟩]
        simp only [bnd, nI_1, cF_same]
        have ec : nI x + -1 = nI (x - 1) := by
          obtain ⟨x', rfl⟩ : ∃ x', x = x' + 1 := ⟨x - 1, by omega⟩
          exact pk_m1 x'
        rw [ec]
        exact ih (k + 1) (x - 1) (by omega) (by omega) (by omega) (by omega)
      · rw [if_pos (by simpa using hp), dif_neg (fun z => hp z.2)]
    · have : k = X.length := by omega
      subst this
      rw [dif_neg (by omega)]
      split
      · rfl
      · rw [if_pos (by rw [nI_leI (by omega) (by omega)]; omega)]
theorem cF_self (σ : CS) {j : Nat} {a : Int32} (h : σ.1 j = a) : cF σ j a = σ := by
  unfold cF
  refine Prod.ext (funext fun k => ?_) rfl
  by_cases e : k = j
  · subst e; simp [upd, h]
  · simp [upd, e]
theorem C_Lex_readName_eq {sX sY sN sT sL : CS} {X : List Int32} (hX : RowL sX X) {ns : List (List Int32)} {so va op re od : List Int32} {L : List (Int32 × Int32 × Int32)} {c : Nat} (hT : TokL sT L c) (hl : 2 * L.length + 64 ≤ 140000) {N q : Nat} (hq : q < X.length) (hat : sL.1 0 = nI q) (hN : X.length < N) (hN2 : ns.length < N) (hNm : NamL sN ns [] so va op re od) (hf : 2 * (ns.flatten.length + 31) + 64 ≤ 140000 ∧ 2 * ns.length + 66 ≤ 140000) :
    (q + 31 < pend (tw X) X.length q ∧ ∃ sL', C_Lex_readName N sL sX sY sN sT = some ((0, (sL', sN, sT)), (0, 0))) ∨ (¬ q + 31 < pend (tw X) X.length q ∧ NamPost sL sN sT X ns so va op re od L c (cut X q (pend (tw X) X.length q)) (pend (tw X) X.length q) (C_Lex_readName N sL sX sY sN sT)) := by
  have hx1 := hX.cap; have hx2 := hX.big
  have hle := pend_le (tw X) X.length q (by omega)
  have hge := pend_ge (tw X) X.length q
  have e : C_Lex_readName N sL sX sY sN sT = C_Lex_readName_60 N (nI q) (cF sL 0 (nI (pend (tw X) X.length q))) sX sY sN sT := by
    unfold C_Lex_readName
    rw [hat, hX.cnt]
    have := C_Lex_readName_15_eq (sY := sY) (sN := sN) (sT := sT) (sL := sL) hX N (q := q) N q X.length (by omega) (by omega) (by omega) (by omega)
    rw [cF_self sL hat] at this
    exact this
  rw [e]
  unfold C_Lex_readName_60
  rw [cF_at, pk_sub hge]
  by_cases h : q + 31 < pend (tw X) X.length q
  · left
    rw [if_neg (by rw [show (31 : Int32) = nI 31 from rfl, nI_leI (by omega) (by omega)]; omega)]
    exact ⟨h, _, rfl⟩
  · right
    rw [if_pos (by rw [show (31 : Int32) = nI 31 from rfl, nI_leI (by omega) (by omega)]; omega)]
    refine ⟨h, C_Lex_readName_75_eq hX hT hl hge hle (by omega) hN2 ?_ N q sN (Nat.le_refl _) hge (by omega) (by rw [cut_self]; exact hNm)⟩
    unfold NFits
    rw [List.length_append, cut_len X hle]
    omega
